section
/-! rows of the pure words at numbers -/
theorem gIn_nI {β : Type} {i n : Nat} {k : Option β} (h : i < n) (hn : n < 2 ^ 31) : gIn (nI i) n k = k := by
  unfold gIn
  rw [if_neg (nI_in h hn)]
theorem gIn_of {β : Type} {i : Int32} {n : Nat} {k : Option β} (h : vp_in i n) : gIn i n k = k := by
  unfold gIn
  rw [if_neg h]
theorem gB_0 {β : Type} {k : Option β} : gB 0 k = k := rfl
theorem gB_1 {β : Type} {k : Option β} : gB 1 k = k := rfl
def fillF {α : Type} (n : Nat) (v : α) (f : Nat → α) : Nat → α := fun j => if j < n then v else f j
theorem fillI_loop (N : Nat) (hN : N < 2 ^ 31) (v : Int32) : ∀ (k i : Nat) (f : Nat → Int32), i ≤ N → N - i < k → ll4 (fJ7_fill_53178_5 N) k f v (nI i) (nI N) = some (fun j => if i ≤ j ∧ j < N then v else f j)
  | 0, i, f, _, h => absurd h (by omega)
  | k + 1, i, f, hi, hk => by
    have ih := fillI_loop N hN v k (i + 1) (upd f i v)
    show fJ7_fill_53178_5 N (ll4 (fJ7_fill_53178_5 N) k) f v (nI i) (nI N) = _
    generalize ll4 (fJ7_fill_53178_5 N) k = ag at ih ⊢
    unfold fJ7_fill_53178_5
    by_cases c : N ≤ i
    · rw [if_pos (nI_le c (by omega))]
      congr 1
      funext j
      rw [if_neg (by omega)]
    · rw [if_neg (nI_ge (by omega) (by omega)), gIn_nI (by omega) hN, nm_of, nI_1, nI_clamp (by omega), ih (by omega) (by omega)]
      congr 1
      funext j
      by_cases e : j = i
      · subst e
        rw [if_neg (by omega), if_pos (by omega), pk_us]
      · rw [pk_un e]
        by_cases c2 : i ≤ j ∧ j < N
        · rw [if_pos c2, if_pos (by omega)]
        · rw [if_neg c2, if_neg (by omega)]
theorem fillI (N : Nat) (hN : N < 1024) (v : Int32) (f : Nat → Int32) : fJ7_fill_53178 N f v = some (fillF N v f) := by
  have h := fillI_loop N (by omega) v 1024 0 f (by omega) (by omega)
  rw [nI_0] at h
  unfold fJ7_fill_53178
  rw [nm_of]
  refine Eq.trans h ?_
  congr 1
  funext j
  by_cases c : j < N
  · rw [if_pos ⟨Nat.zero_le _, c⟩, fillF, if_pos c]
  · rw [if_neg (fun q => c q.2), fillF, if_neg c]
theorem fillL_loop (N : Nat) (hN : N < 2 ^ 31) (v : Int64) : ∀ (k i : Nat) (f : Nat → Int64), i ≤ N → N - i < k → ll4 (fJ7_fill_d0a16_6 N) k f v (nI i) (nI N) = some (fun j => if i ≤ j ∧ j < N then v else f j)
  | 0, i, f, _, h => absurd h (by omega)
  | k + 1, i, f, hi, hk => by
    have ih := fillL_loop N hN v k (i + 1) (vp_updL f i v)
    show fJ7_fill_d0a16_6 N (ll4 (fJ7_fill_d0a16_6 N) k) f v (nI i) (nI N) = _
    generalize ll4 (fJ7_fill_d0a16_6 N) k = ag at ih ⊢
    unfold fJ7_fill_d0a16_6
    by_cases c : N ≤ i
    · rw [if_pos (nI_le c (by omega))]
      congr 1
      funext j
      rw [if_neg (by omega)]
    · rw [if_neg (nI_ge (by omega) (by omega)), gIn_nI (by omega) hN, nm_of, nI_1, nI_clamp (by omega), ih (by omega) (by omega)]
      congr 1
      funext j
      by_cases e : j = i
      · subst e
        rw [if_neg (by omega), if_pos (by omega), pk_uLs]
      · rw [pk_uLn e]
        by_cases c2 : i ≤ j ∧ j < N
        · rw [if_pos c2, if_pos (by omega)]
        · rw [if_neg c2, if_neg (by omega)]
theorem fillL (N : Nat) (hN : N < 1024) (v : Int64) (f : Nat → Int64) : fJ7_fill_d0a16 N f v = some (fillF N v f) := by
  have h := fillL_loop N (by omega) v 1024 0 f (by omega) (by omega)
  rw [nI_0] at h
  unfold fJ7_fill_d0a16
  rw [nm_of]
  refine Eq.trans h ?_
  congr 1
  funext j
  by_cases c : j < N
  · rw [if_pos ⟨Nat.zero_le _, c⟩, fillF, if_pos c]
  · rw [if_neg (fun q => c q.2), fillF, if_neg c]
/-! making cells -/
theorem q_perm {D : va_G} {A : Nat → Prop} {s : State} {ws ws' : va_W} {H : Heap} {locs : List Loc} (h : q_H D A s ws H locs) (pm : List Nat) (hn : va_nd pm = true) (hs : pm.map (fun i => ws[i]?) = ws'.map some) : q_H D A s ws' H locs := ⟨q_Psub h.1 hs, h.2.1.sub pm hn hs, h.2.2⟩
section QM
variable {p : Program} {l : Launch} {e : Env} {R : Room} {s : State} {m : MethodId} {args : Array Value} {below : List Frame} {meth : Method} {c : Code} {H : Heap} {locs : List Loc} {cells slots : Nat} {Q : State → Prop}
variable {cc bytes : ByteArray} {pc nL maxL index mc ms : Nat} {ls : Array Slot} {rest As st0 : List Value} {D : va_G} {A : Nat → Prop} {a b tb : Nat} {cI cJ cZ cS : ClassId} {ws ws' wc w1 wr : va_W} {own C : String} {y : MethodName} {ret ret0 : Option FieldType} {rm : Room}
theorem q_new (fx : q_Fx p s m args meth c cc nL own ret0 D cI cJ cZ cS tb A) (h : q_H D A s ws H locs) {T : u_T} {N ci : Nat} (hin : ∀ w ∈ u_ws C T N, w ∈ wA) (ty : Nat → FieldType) (hty : ∀ k, k < N → parseFieldDescriptor (T k).2.2.1 = some (ty k)) (hcl : Cond.classLink own index C ∈ wA) (hinst : Cond.instantiable C N ∈ wA) (hini : Cond.initialized C ∈ wA) (hc : vwCl[ci]? = some (C, T, N)) {fs : List Value} (hfs : ∀ j, j < N → defaultValue (ty j) = vp_V fs j) (hcells : cells + 1 ≤ R.cells) (hslots : slots + N ≤ R.slots) (hdg : decode cc pc = .ok (.new index, 3))
    (kk : ∀ (q : Nat) (H : Heap), q_H D A s (ws ++ [(q, .inr (ci, fs))]) H locs → W p l e R s m args below meth c H locs (cells + 1) (slots + N) Q (F0 m (pc + 3) ls (.ref q :: rest))) : W p l e R s m args below meth c H locs cells slots Q (F0 m pc ls rest) := by
  obtain ⟨hx, hb, -, hown, hts, -, -, hG, hA⟩ := fx
  exact va_new hx hb hts hin ty hty hown (hts _ hcl) (hts _ hinst) (hts _ hini) hG.1 h.1 h.2.1 h.2.2 hA hc hfs hcells hslots hdg (fun q H1 h1 h2 h3 => kk q H1 ⟨h1, h2, h3⟩)
theorem q_newI (fx : q_Fx p s m args meth c cc nL own ret0 D cI cJ cZ cS tb A) (h : q_H D A s ws H locs) (hk : Cond.arrayClass .int ∈ wA) {n : Int32} {N : Nat} (hn : ¬ n < 0) (hN : n.toNatClampNeg = N) (hby : N * componentBytes .int ≤ 536870912) (hcells : cells + 1 ≤ R.cells) (hslots : slots + N ≤ R.slots) (hdg : decode cc pc = .ok (.newarray .int, 2))
    (kk : ∀ (q : Nat) (H : Heap), q_H D A s (ws ++ [(q, .inl (cI, N, .inl (fun _ => 0)))]) H locs → W p l e R s m args below meth c H locs (cells + 1) (slots + N) Q (F0 m (pc + 2) ls (.ref q :: rest))) : W p l e R s m args below meth c H locs cells slots Q (F0 m pc ls (.int n :: rest)) := by
  obtain ⟨hx, hb, -, hown, hts, -, -, hG, hA⟩ := fx
  refine va_newa (atype := .int) (a0 := (N, .inl (fun _ => 0))) hx hb (hts _ hk) rfl hG.1 h.1 h.2.1 h.2.2 hA (fun cA => rfl) hn hN hby hcells hslots hdg (fun q cA H1 hK1 h1 h2 h3 => ?_)
  have e : cA = cI := Option.some.inj ((show s.vm.findClass _ = some cA from (hK1.2 4 (cA, .int) rfl).2).symm.trans (show s.vm.findClass _ = some cI from (hK1.2 0 (cI, .int) rfl).2))
  subst e
  exact kk q H1 ⟨h1, h2, h3⟩
theorem q_newJ (fx : q_Fx p s m args meth c cc nL own ret0 D cI cJ cZ cS tb A) (h : q_H D A s ws H locs) (hk : Cond.arrayClass .long ∈ wA) {n : Int32} {N : Nat} (hn : ¬ n < 0) (hN : n.toNatClampNeg = N) (hby : N * componentBytes .long ≤ 536870912) (hcells : cells + 1 ≤ R.cells) (hslots : slots + N ≤ R.slots) (hdg : decode cc pc = .ok (.newarray .long, 2))
    (kk : ∀ (q : Nat) (H : Heap), q_H D A s (ws ++ [(q, .inl (cJ, N, .inr (.inl (fun _ => 0))))]) H locs → W p l e R s m args below meth c H locs (cells + 1) (slots + N) Q (F0 m (pc + 2) ls (.ref q :: rest))) : W p l e R s m args below meth c H locs cells slots Q (F0 m pc ls (.int n :: rest)) := by
  obtain ⟨hx, hb, -, hown, hts, -, -, hG, hA⟩ := fx
  refine va_newa (atype := .long) (a0 := (N, .inr (.inl (fun _ => 0)))) hx hb (hts _ hk) rfl hG.1 h.1 h.2.1 h.2.2 hA (fun cA => rfl) hn hN hby hcells hslots hdg (fun q cA H1 hK1 h1 h2 h3 => ?_)
  have e : cA = cJ := Option.some.inj ((show s.vm.findClass _ = some cA from (hK1.2 4 (cA, .long) rfl).2).symm.trans (show s.vm.findClass _ = some cJ from (hK1.2 1 (cJ, .long) rfl).2))
  subst e
  exact kk q H1 ⟨h1, h2, h3⟩
theorem q_newZ (fx : q_Fx p s m args meth c cc nL own ret0 D cI cJ cZ cS tb A) (h : q_H D A s ws H locs) (hk : Cond.arrayClass .boolean ∈ wA) {n : Int32} {N : Nat} (hn : ¬ n < 0) (hN : n.toNatClampNeg = N) (hby : N * componentBytes .boolean ≤ 536870912) (hcells : cells + 1 ≤ R.cells) (hslots : slots + N ≤ R.slots) (hdg : decode cc pc = .ok (.newarray .boolean, 2))
    (kk : ∀ (q : Nat) (H : Heap), q_H D A s (ws ++ [(q, .inl (cZ, N, .inl (fun _ => 0)))]) H locs → W p l e R s m args below meth c H locs (cells + 1) (slots + N) Q (F0 m (pc + 2) ls (.ref q :: rest))) : W p l e R s m args below meth c H locs cells slots Q (F0 m pc ls (.int n :: rest)) := by
  obtain ⟨hx, hb, -, hown, hts, -, -, hG, hA⟩ := fx
  refine va_newa (atype := .boolean) (a0 := (N, .inl (fun _ => 0))) hx hb (hts _ hk) rfl hG.1 h.1 h.2.1 h.2.2 hA (fun cA => rfl) hn hN hby hcells hslots hdg (fun q cA H1 hK1 h1 h2 h3 => ?_)
  have e : cA = cZ := Option.some.inj ((show s.vm.findClass _ = some cA from (hK1.2 4 (cA, .boolean) rfl).2).symm.trans (show s.vm.findClass _ = some cZ from (hK1.2 2 (cZ, .boolean) rfl).2))
  subst e
  exact kk q H1 ⟨h1, h2, h3⟩
theorem q_newS (fx : q_Fx p s m args meth c cc nL own ret0 D cI cJ cZ cS tb A) (h : q_H D A s ws H locs) (hcl : Cond.classLink own index "ComeIfShe$Sheet" ∈ wA) {n : Int32} {N : Nat} (hn : ¬ n < 0) (hN : n.toNatClampNeg = N) (hby : N * 4 ≤ 536870912) (hcells : cells + 1 ≤ R.cells) (hslots : slots + N ≤ R.slots) (hdg : decode cc pc = .ok (.anewarray index, 3))
    (kk : ∀ (q : Nat) (H : Heap), q_H D A s (ws ++ [(q, .inl (cS, N, .inr (.inr (.inr (.inr (fun _ => none))))))]) H locs → W p l e R s m args below meth c H locs (cells + 1) (slots + N) Q (F0 m (pc + 3) ls (.ref q :: rest))) : W p l e R s m args below meth c H locs cells slots Q (F0 m pc ls (.int n :: rest)) := by
  obtain ⟨hx, hb, -, hown, hts, -, -, hG, hA⟩ := fx
  refine va_newq hx hb hown (hts _ hcl) hG.2.2.1 hG.1 h.1 h.2.1 h.2.2 hA hn hN hby hcells hslots hdg (fun q cA H1 hK1 h1 h2 h3 => ?_)
  obtain ⟨k1, c1, -, -, -, e1⟩ := (hK1.2 4 (cA, .object "ComeIfShe$Sheet") rfl).2
  obtain ⟨k2, c2, -, -, -, e2⟩ := (hK1.2 3 (cS, .object "ComeIfShe$Sheet") rfl).2
  have e : cA = cS := Option.some.inj (e1.symm.trans e2)
  subst e
  exact kk q H1 ⟨h1, h2, h3⟩
theorem q_astS (fx : q_Fx p s m args meth c cc nL own ret0 D cI cJ cZ cS tb A) (h : q_H D A s ws H locs) (q0 qk : Nat) {n v : Nat} {vs : List Value} {f : Nat → Option Nat} (ha : ws[q0]? = some (a, .inl (cS, n, .inr (.inr (.inr (.inr f)))))) (hv : ws[qk]? = some (v, .inr (1, vs))) {i : Int32} (j : Nat) (hin : vp_in i n) (hj : i.toNatClampNeg = j) (hE : ws.set q0 (a, .inl (cS, n, .inr (.inr (.inr (.inr (va_up f j (some v))))))) = ws') (hdg : decode cc pc = .ok (.aastore, 1))
    (kk : ∀ (H : Heap) (locs : List Loc), q_H D A s ws' H locs → W p l e R s m args below meth c H locs cells slots Q (F0 m (pc + 1) ls rest)) : W p l e R s m args below meth c H locs cells slots Q (F0 m pc ls (.ref v :: .int i :: .ref a :: rest)) := by
  obtain ⟨hx, hb, -, hown, hts, -, -, hG, hA⟩ := fx
  subst hE; subst hj
  exact va_astq (r := (RX1, TX1, 3)) hx hb hG.1 h.1 h.2.1 h.2.2 q0 3 qk 1 ha rfl hv rfl hin hdg (fun H1 locs1 h1 h2 h3 => kk H1 locs1 ⟨h1, h2, h3⟩)
/-- behind a constructor -/
theorem q_cn {W1 : (Nat → Nat) → va_W} {av : Array Value} (fx : q_Fx p s m args meth c cc nL own ret0 D cI cJ cZ cS tb A) (h : q_H D A s ws H locs) (isC isR : List Nat) (hC : isC.map (fun i => ws[i]?) = wc.map some) (hR : isR.map (fun i => ws[i]?) = wr.map some) (hn : va_nd isR = true) (hdis : ∀ i ∈ isR, i ∉ isC)
    (hr : va_Run p l e R s m args below meth c H locs cells slots mc ms (F0 m pc ls st0) rest (q_Rn D (va_A wc H.size) W1 av) (va_A wc H.size))
    (kk : ∀ (u : Nat → Nat) (H : Heap) (locs : List Loc), q_H D A s (wr ++ W1 u) H locs → W p l e R s m args below meth c H locs (cells + mc) (slots + ms) Q (F0 m (pc + 3) ls rest)) : W p l e R s m args below meth c H locs cells slots Q (F0 m pc ls st0) := by
  have hFc := va_free (wc := wc) h.2.1 h.2.2 fx.2.2.2.2.2.2.2.2 isC hC
  refine va_callv hr h.2.2 (fun q _ hq => hFc q hq) hFc (fun u t H1 locs1 ht hvm hw hB hz1 hk1 hS1 => ?_)
  have hPD := va_join h.1 h.2.1 isC isR hC hR hn hdis hk1 hFc (by rw [← ht]; exact hB.1) hB.2
  exact kk u H1 locs1 ⟨hPD.1, hPD.2, hS1⟩
theorem q_retn (W1 : (Nat → Nat) → va_W) (u : Nat → Nat) (fx : q_Fx p s m args meth c cc nL own none D cI cJ cZ cS tb A) (h : q_H D A s (W1 u) H locs) (hdg : decode cc pc = .ok (.return_, 1)) : W p l e R s m args below meth c H locs cells slots (MQ below (q_Rn D A W1) args s cells slots A) (F0 m pc ls []) := by
  obtain ⟨hx, hb, hml, hown, hts, hr, hlocks, hG, hA⟩ := fx
  exact W.vret hx hb hr (fun t ht hW => ⟨⟨u, rfl, trivial, by rw [ht]; exact h.1, h.2.1⟩, h.2.2.F ht⟩) h.2.2.2.2 hdg hlocks
theorem q_oinit (fx : q_Fx p s m args meth c cc nL own ret0 D cI cJ cZ cS tb A) (hsz : ls.size = nL) (hlink : Cond.methodLink own index objectInit ∈ wA) (hinst : Cond.instanceMethod objectInit ∈ wA) (hcode : Cond.code objectInit ⟨#[0xb1]⟩ 1 none ∈ wA) (hdg : decode cc pc = .ok (.invokespecial index, 3)) (hfr : 1 ≤ R.frames) (hlo : 2 * (F0 m pc ls (.ref a :: rest)).monitorRoom + (rest.map fun v => v.category).sum + 12 ≤ R.locals)
    (kk : W p l e R s m args below meth c H locs cells slots Q (F0 m (pc + 3) ls rest)) : W p l e R s m args below meth c H locs cells slots Q (F0 m pc ls (.ref a :: rest)) := by
  obtain ⟨hx, hb, hml, hown, hts, -, -, hG, hA⟩ := fx
  refine W.objInit hx hb hown (hts _ hlink) (hts _ hinst) (hts _ hcode) rfl (by rw [hml]; exact hsz) rfl hdg hfr hlo ?_
  exact W.eq (g2 := F0 m (pc + 3) ls rest) rfl kk
end QM
theorem q_shup (a b c d : Nat) : va_up (va_up (va_up (va_up (fun _ => none) 0 (some a)) 1 (some b)) 2 (some c)) 3 (some d) = q_sh a b c d := by
  funext j
  match j with
  | 0 => rfl
  | 1 => rfl
  | 2 => rfl
  | 3 => rfl
  | n + 4 => simp [va_up, q_sh]
end
section
abbrev nX1 (cI cJ cZ cS : ClassId) (a_t : Nat) (u : Nat → Nat) : va_W := [(a_t, .inr (1, [.int 0, .int 0, .ref (u 0)])), ((u 0), .inl (cJ, 40, .inr (.inl (fun _ => 0))))]
abbrev rX1_init : Room := { frames := 1, cells := 1, slots := 40, locals := 40 }
theorem dfX1 : ∀ j, j < 3 → defaultValue (tyX1 j) = vp_V [.int 0, .int 0, .null] j := by
  intro j hj
  match j, hj with
  | 0, _ => rfl
  | 1, _ => rfl
  | 2, _ => rfl
  | n + 3, h => exact absurd h (by omega)
set_option maxRecDepth 100000 in
set_option maxHeartbeats 4000000 in
theorem iX1 (l : Launch) (D : va_G) (cI cJ cZ cS : ClassId) (tb : Nat) (a_t sz : Nat) : Met l yX1_init (Cond.code yX1_init cX1_init 1 none :: wA) rX1_init (q_Pre D cI cJ cZ cS tb [.ref a_t] sz [(a_t, .inr (1, [.int 0, .int 0, .null]))]) (q_Rn D (va_A [(a_t, .inr (1, [.int 0, .int 0, .null]))] sz) (fun u => nX1 cI cJ cZ cS a_t u)) 1 40 (va_A [(a_t, .inr (1, [.int 0, .int 0, .null]))] sz) := by
  refine q_enter (Qf := fun A => q_Rn D A (fun u => nX1 cI cJ cZ cS a_t u)) (by decide) rfl (Nat.le_of_ble_eq_true rfl) ?_
  intro p e s m below meth c A ls fx hname h hl
  have hin : meth.name = "<init>" := hname
  have hx := fx.1
  have hb := fx.2.1
  have hl : lv_has ls 1 [(0, .ref a_t)] := hl
  generalize h9 : s.heap = H at h ⊢
  clear h9
  generalize h9 : ([] : List Loc) = locs at h ⊢
  clear h9
  refine lv_aload_n hx hb dX1_init_0 rfl (lv_at hl 0 rfl) ?_
  refine q_oinit fx hl.1 k_160 k_65 k_66 dX1_init_1 (Nat.le_of_ble_eq_true rfl) (Nat.le_of_ble_eq_true rfl) ?_
  refine lv_aload_n hx hb dX1_init_4 rfl (lv_at hl 0 rfl) ?_
  refine lv_bipush (v := 40) hx hb dX1_init_5 (by decide) ?_
  refine q_newJ (N := 40) fx h k_110 (by decide) (by decide) (Nat.le_of_ble_eq_true rfl) (Nat.le_of_ble_eq_true rfl) (Nat.le_of_ble_eq_true rfl) dX1_init_7 (fun q1 H h => ?_)
  have h : q_H D A s [(a_t, .inr (1, [.int 0, .int 0, .null])), (q1, .inl (cJ, 40, .inr (.inl (fun _ => 0))))] H locs := h
  refine W.widen (k := 1) (n := 40) (Nat.le_of_ble_eq_true rfl) (Nat.le_of_ble_eq_true rfl) ?_
  refine q_putF (v := .ref q1) (ws' := [(a_t, .inr (1, [.int 0, .int 0, .ref q1])), (q1, .inl (cJ, 40, .inr (.inl (fun _ => 0))))]) fx hin inX1 tyX1 tyX1_ok nmX1 h 0 rfl rfl 2 (by decide) k_165 rfl rfl rfl rfl (Nat.le_of_ble_eq_true rfl) rfl dX1_init_9 (fun H locs h => ?_)
  have h := q_perm (ws' := nX1 cI cJ cZ cS a_t (fun k => ([q1] : List Nat).getD k 0)) h [0, 1] (by decide) rfl
  exact q_retn (fun u => nX1 cI cJ cZ cS a_t u) (fun k => ([q1] : List Nat).getD k 0) fx h dX1_init_12
abbrev nX0 (cI cJ cZ cS : ClassId) (a_t : Nat) (u : Nat → Nat) : va_W := [(a_t, .inr (0, [.int 0, .int 0, .int 0, .ref (u 0), .ref (u 1), .ref (u 2), .ref (u 3)])), ((u 0), .inl (cI, 8, .inl (fun _ => 0))), ((u 1), .inl (cI, 8, .inl (fun _ => 0))), ((u 2), .inl (cJ, 32, .inr (.inl (fillF 32 (-1) (fun _ => 0))))), ((u 3), .inl (cI, 256, .inl (fillF 256 (-1) (fun _ => 0))))]
abbrev rX0_init : Room := { frames := 1, cells := 4, slots := 304, locals := 40 }
theorem dfX0 : ∀ j, j < 7 → defaultValue (tyX0 j) = vp_V [.int 0, .int 0, .int 0, .null, .null, .null, .null] j := by
  intro j hj
  match j, hj with
  | 0, _ => rfl
  | 1, _ => rfl
  | 2, _ => rfl
  | 3, _ => rfl
  | 4, _ => rfl
  | 5, _ => rfl
  | 6, _ => rfl
  | n + 7, h => exact absurd h (by omega)
set_option maxRecDepth 100000 in
set_option maxHeartbeats 4000000 in
theorem iX0 (l : Launch) (D : va_G) (cI cJ cZ cS : ClassId) (tb : Nat) (a_t sz : Nat) : Met l yX0_init (Cond.code yX0_init cX0_init 1 none :: wA) rX0_init (q_Pre D cI cJ cZ cS tb [.ref a_t] sz [(a_t, .inr (0, [.int 0, .int 0, .int 0, .null, .null, .null, .null]))]) (q_Rn D (va_A [(a_t, .inr (0, [.int 0, .int 0, .int 0, .null, .null, .null, .null]))] sz) (fun u => nX0 cI cJ cZ cS a_t u)) 4 304 (va_A [(a_t, .inr (0, [.int 0, .int 0, .int 0, .null, .null, .null, .null]))] sz) := by
  refine q_enter (Qf := fun A => q_Rn D A (fun u => nX0 cI cJ cZ cS a_t u)) (by decide) rfl (Nat.le_of_ble_eq_true rfl) ?_
  intro p e s m below meth c A ls fx hname h hl
  have hin : meth.name = "<init>" := hname
  have hx := fx.1
  have hb := fx.2.1
  have hl : lv_has ls 1 [(0, .ref a_t)] := hl
  generalize h9 : s.heap = H at h ⊢
  clear h9
  generalize h9 : ([] : List Loc) = locs at h ⊢
  clear h9
  refine lv_aload_n hx hb dX0_init_0 rfl (lv_at hl 0 rfl) ?_
  refine q_oinit fx hl.1 k_72 k_65 k_66 dX0_init_1 (Nat.le_of_ble_eq_true rfl) (Nat.le_of_ble_eq_true rfl) ?_
  refine lv_aload_n hx hb dX0_init_4 rfl (lv_at hl 0 rfl) ?_
  refine lv_bipush (v := 8) hx hb dX0_init_5 (by decide) ?_
  refine q_newI (N := 8) fx h k_109 (by decide) (by decide) (Nat.le_of_ble_eq_true rfl) (Nat.le_of_ble_eq_true rfl) (Nat.le_of_ble_eq_true rfl) dX0_init_7 (fun q1 H h => ?_)
  have h : q_H D A s [(a_t, .inr (0, [.int 0, .int 0, .int 0, .null, .null, .null, .null])), (q1, .inl (cI, 8, .inl (fun _ => 0)))] H locs := h
  refine W.widen (k := 1) (n := 8) (Nat.le_of_ble_eq_true rfl) (Nat.le_of_ble_eq_true rfl) ?_
  refine q_putF (v := .ref q1) (ws' := [(a_t, .inr (0, [.int 0, .int 0, .int 0, .ref q1, .null, .null, .null])), (q1, .inl (cI, 8, .inl (fun _ => 0)))]) fx hin inX0 tyX0 tyX0_ok nmX0 h 0 rfl rfl 3 (by decide) k_88 rfl rfl rfl rfl (Nat.le_of_ble_eq_true rfl) rfl dX0_init_9 (fun H locs h => ?_)
  refine lv_aload_n hx hb dX0_init_12 rfl (lv_at hl 0 rfl) ?_
  refine lv_bipush (v := 8) hx hb dX0_init_13 (by decide) ?_
  refine q_newI (N := 8) fx h k_109 (by decide) (by decide) (Nat.le_of_ble_eq_true rfl) (Nat.le_of_ble_eq_true rfl) (Nat.le_of_ble_eq_true rfl) dX0_init_15 (fun q2 H h => ?_)
  have h : q_H D A s [(a_t, .inr (0, [.int 0, .int 0, .int 0, .ref q1, .null, .null, .null])), (q1, .inl (cI, 8, .inl (fun _ => 0))), (q2, .inl (cI, 8, .inl (fun _ => 0)))] H locs := h
  refine W.widen (k := 2) (n := 16) (Nat.le_of_ble_eq_true rfl) (Nat.le_of_ble_eq_true rfl) ?_
  refine q_putF (v := .ref q2) (ws' := [(a_t, .inr (0, [.int 0, .int 0, .int 0, .ref q1, .ref q2, .null, .null])), (q1, .inl (cI, 8, .inl (fun _ => 0))), (q2, .inl (cI, 8, .inl (fun _ => 0)))]) fx hin inX0 tyX0 tyX0_ok nmX0 h 0 rfl rfl 4 (by decide) k_90 rfl rfl rfl rfl (Nat.le_of_ble_eq_true rfl) rfl dX0_init_17 (fun H locs h => ?_)
  refine lv_aload_n hx hb dX0_init_20 rfl (lv_at hl 0 rfl) ?_
  refine lv_bipush (v := 32) hx hb dX0_init_21 (by decide) ?_
  refine q_newJ (N := 32) fx h k_110 (by decide) (by decide) (Nat.le_of_ble_eq_true rfl) (Nat.le_of_ble_eq_true rfl) (Nat.le_of_ble_eq_true rfl) dX0_init_23 (fun q3 H h => ?_)
  have h : q_H D A s [(a_t, .inr (0, [.int 0, .int 0, .int 0, .ref q1, .ref q2, .null, .null])), (q1, .inl (cI, 8, .inl (fun _ => 0))), (q2, .inl (cI, 8, .inl (fun _ => 0))), (q3, .inl (cJ, 32, .inr (.inl (fun _ => 0))))] H locs := h
  refine W.widen (k := 3) (n := 48) (Nat.le_of_ble_eq_true rfl) (Nat.le_of_ble_eq_true rfl) ?_
  refine q_putF (v := .ref q3) (ws' := [(a_t, .inr (0, [.int 0, .int 0, .int 0, .ref q1, .ref q2, .ref q3, .null])), (q1, .inl (cI, 8, .inl (fun _ => 0))), (q2, .inl (cI, 8, .inl (fun _ => 0))), (q3, .inl (cJ, 32, .inr (.inl (fun _ => 0))))]) fx hin inX0 tyX0 tyX0_ok nmX0 h 0 rfl rfl 5 (by decide) k_92 rfl rfl rfl rfl (Nat.le_of_ble_eq_true rfl) rfl dX0_init_25 (fun H locs h => ?_)
  refine lv_aload_n hx hb dX0_init_28 rfl (lv_at hl 0 rfl) ?_
  refine lv_sipush (v := 256) hx hb dX0_init_29 (by decide) ?_
  refine q_newI (N := 256) fx h k_109 (by decide) (by decide) (Nat.le_of_ble_eq_true rfl) (Nat.le_of_ble_eq_true rfl) (Nat.le_of_ble_eq_true rfl) dX0_init_32 (fun q4 H h => ?_)
  have h : q_H D A s [(a_t, .inr (0, [.int 0, .int 0, .int 0, .ref q1, .ref q2, .ref q3, .null])), (q1, .inl (cI, 8, .inl (fun _ => 0))), (q2, .inl (cI, 8, .inl (fun _ => 0))), (q3, .inl (cJ, 32, .inr (.inl (fun _ => 0)))), (q4, .inl (cI, 256, .inl (fun _ => 0)))] H locs := h
  refine W.widen (k := 4) (n := 304) (Nat.le_of_ble_eq_true rfl) (Nat.le_of_ble_eq_true rfl) ?_
  refine q_putF (v := .ref q4) (ws' := [(a_t, .inr (0, [.int 0, .int 0, .int 0, .ref q1, .ref q2, .ref q3, .ref q4])), (q1, .inl (cI, 8, .inl (fun _ => 0))), (q2, .inl (cI, 8, .inl (fun _ => 0))), (q3, .inl (cJ, 32, .inr (.inl (fun _ => 0)))), (q4, .inl (cI, 256, .inl (fun _ => 0)))]) fx hin inX0 tyX0 tyX0_ok nmX0 h 0 rfl rfl 6 (by decide) k_93 rfl rfl rfl rfl (Nat.le_of_ble_eq_true rfl) rfl dX0_init_34 (fun H locs h => ?_)
  refine lv_aload_n hx hb dX0_init_37 rfl (lv_at hl 0 rfl) ?_
  refine q_get (v := .ref q3) fx inX0 h 0 rfl rfl 5 (by decide) k_92 rfl dX0_init_38 ?_
  refine q_ldc2 fx k_73 dX0_init_41 ?_
  refine q_cv (rest := []) (ws' := [(a_t, .inr (0, [.int 0, .int 0, .int 0, .ref q1, .ref q2, .ref q3, .ref q4])), (q1, .inl (cI, 8, .inl (fun _ => 0))), (q2, .inl (cI, 8, .inl (fun _ => 0))), (q3, .inl (cJ, 32, .inr (.inl (fillF 32 (-1) (fun _ => 0))))), (q4, .inl (cI, 256, .inl (fun _ => 0)))]) (w1 := [(q3, .inl (cJ, 32, .inr (.inl (fillF 32 (-1) (fun _ => 0)))))]) fx h [3] rfl rfl rfl rfl (q_runS fx h hl.1 [3] rfl rfl (tJ7_fill_d0a16 l D cI cJ cZ cS tb 32 q3 H.size (fun _ => 0) (-1) (fillF 32 (-1) (fun _ => 0)) (fillL 32 (by decide) (-1) (fun _ => 0))) msJ7_fill_d0a16 k_74 ⟨rfl, rfl⟩ ⟨Nat.le_of_ble_eq_true rfl, Nat.le_of_ble_eq_true rfl⟩ rfl rfl (Nat.le_of_ble_eq_true rfl) dX0_init_44 ⟨Nat.le_of_ble_eq_true rfl, Nat.le_of_ble_eq_true rfl⟩) (fun H locs h => ?_)
  refine lv_aload_n hx hb dX0_init_47 rfl (lv_at hl 0 rfl) ?_
  refine q_get (v := .ref q4) fx inX0 h 0 rfl rfl 6 (by decide) k_93 rfl dX0_init_48 ?_
  refine lv_iconst (v := -1) hx hb dX0_init_51 (by decide) ?_
  refine q_cv (rest := []) (ws' := [(a_t, .inr (0, [.int 0, .int 0, .int 0, .ref q1, .ref q2, .ref q3, .ref q4])), (q1, .inl (cI, 8, .inl (fun _ => 0))), (q2, .inl (cI, 8, .inl (fun _ => 0))), (q3, .inl (cJ, 32, .inr (.inl (fillF 32 (-1) (fun _ => 0))))), (q4, .inl (cI, 256, .inl (fillF 256 (-1) (fun _ => 0))))]) (w1 := [(q4, .inl (cI, 256, .inl (fillF 256 (-1) (fun _ => 0))))]) fx h [4] rfl rfl rfl rfl (q_runS fx h hl.1 [4] rfl rfl (tJ7_fill_53178 l D cI cJ cZ cS tb 256 q4 H.size (fun _ => 0) (-1) (fillF 256 (-1) (fun _ => 0)) (fillI 256 (by decide) (-1) (fun _ => 0))) msJ7_fill_53178 k_77 ⟨rfl, rfl⟩ ⟨Nat.le_of_ble_eq_true rfl, Nat.le_of_ble_eq_true rfl⟩ rfl rfl (Nat.le_of_ble_eq_true rfl) dX0_init_52 ⟨Nat.le_of_ble_eq_true rfl, Nat.le_of_ble_eq_true rfl⟩) (fun H locs h => ?_)
  have h := q_perm (ws' := nX0 cI cJ cZ cS a_t (fun k => ([q1, q2, q3, q4] : List Nat).getD k 0)) h [0, 1, 2, 3, 4] (by decide) rfl
  exact q_retn (fun u => nX0 cI cJ cZ cS a_t u) (fun k => ([q1, q2, q3, q4] : List Nat).getD k 0) fx h dX0_init_55
abbrev nX2 (cI cJ cZ cS : ClassId) (a_t : Nat) (u : Nat → Nat) : va_W := [(a_t, .inr (2, [.ref (u 0), .int 0, .int 0, .int (-1), .int 0, .int 0])), ((u 0), .inl (cI, 60, .inl (fun _ => 0)))]
abbrev rX2_init : Room := { frames := 1, cells := 1, slots := 60, locals := 40 }
theorem dfX2 : ∀ j, j < 6 → defaultValue (tyX2 j) = vp_V [.null, .int 0, .int 0, .int 0, .int 0, .int 0] j := by
  intro j hj
  match j, hj with
  | 0, _ => rfl
  | 1, _ => rfl
  | 2, _ => rfl
  | 3, _ => rfl
  | 4, _ => rfl
  | 5, _ => rfl
  | n + 6, h => exact absurd h (by omega)
set_option maxRecDepth 100000 in
set_option maxHeartbeats 4000000 in
theorem iX2 (l : Launch) (D : va_G) (cI cJ cZ cS : ClassId) (tb : Nat) (a_t sz : Nat) : Met l yX2_init (Cond.code yX2_init cX2_init 1 none :: wA) rX2_init (q_Pre D cI cJ cZ cS tb [.ref a_t] sz [(a_t, .inr (2, [.null, .int 0, .int 0, .int 0, .int 0, .int 0]))]) (q_Rn D (va_A [(a_t, .inr (2, [.null, .int 0, .int 0, .int 0, .int 0, .int 0]))] sz) (fun u => nX2 cI cJ cZ cS a_t u)) 1 60 (va_A [(a_t, .inr (2, [.null, .int 0, .int 0, .int 0, .int 0, .int 0]))] sz) := by
  refine q_enter (Qf := fun A => q_Rn D A (fun u => nX2 cI cJ cZ cS a_t u)) (by decide) rfl (Nat.le_of_ble_eq_true rfl) ?_
  intro p e s m below meth c A ls fx hname h hl
  have hin : meth.name = "<init>" := hname
  have hx := fx.1
  have hb := fx.2.1
  have hl : lv_has ls 1 [(0, .ref a_t)] := hl
  generalize h9 : s.heap = H at h ⊢
  clear h9
  generalize h9 : ([] : List Loc) = locs at h ⊢
  clear h9
  refine lv_aload_n hx hb dX2_init_0 rfl (lv_at hl 0 rfl) ?_
  refine q_oinit fx hl.1 k_116 k_65 k_66 dX2_init_1 (Nat.le_of_ble_eq_true rfl) (Nat.le_of_ble_eq_true rfl) ?_
  refine lv_aload_n hx hb dX2_init_4 rfl (lv_at hl 0 rfl) ?_
  refine lv_bipush (v := 60) hx hb dX2_init_5 (by decide) ?_
  refine q_newI (N := 60) fx h k_109 (by decide) (by decide) (Nat.le_of_ble_eq_true rfl) (Nat.le_of_ble_eq_true rfl) (Nat.le_of_ble_eq_true rfl) dX2_init_7 (fun q1 H h => ?_)
  have h : q_H D A s [(a_t, .inr (2, [.null, .int 0, .int 0, .int 0, .int 0, .int 0])), (q1, .inl (cI, 60, .inl (fun _ => 0)))] H locs := h
  refine W.widen (k := 1) (n := 60) (Nat.le_of_ble_eq_true rfl) (Nat.le_of_ble_eq_true rfl) ?_
  refine q_putF (v := .ref q1) (ws' := [(a_t, .inr (2, [.ref q1, .int 0, .int 0, .int 0, .int 0, .int 0])), (q1, .inl (cI, 60, .inl (fun _ => 0)))]) fx hin inX2 tyX2 tyX2_ok nmX2 h 0 rfl rfl 0 (by decide) k_117 rfl rfl rfl rfl (Nat.le_of_ble_eq_true rfl) rfl dX2_init_9 (fun H locs h => ?_)
  refine lv_aload_n hx hb dX2_init_12 rfl (lv_at hl 0 rfl) ?_
  refine lv_iconst (v := -1) hx hb dX2_init_13 (by decide) ?_
  refine q_put (v := .int (-1)) (ws' := [(a_t, .inr (2, [.ref q1, .int 0, .int 0, .int (-1), .int 0, .int 0])), (q1, .inl (cI, 60, .inl (fun _ => 0)))]) fx inX2 tyX2 tyX2_ok nmX2 h 0 rfl rfl 3 (by decide) k_121 rfl rfl rfl (Nat.le_of_ble_eq_true rfl) rfl dX2_init_14 (fun H locs h => ?_)
  have h := q_perm (ws' := nX2 cI cJ cZ cS a_t (fun k => ([q1] : List Nat).getD k 0)) h [0, 1] (by decide) rfl
  exact q_retn (fun u => nX2 cI cJ cZ cS a_t u) (fun k => ([q1] : List Nat).getD k 0) fx h dX2_init_17
abbrev nX3 (cI cJ cZ cS : ClassId) (a_t : Nat) (u : Nat → Nat) : va_W := [(a_t, .inr (3, [.ref (u 0), .ref (u 1), .ref (u 2)])), ((u 0), .inl (cI, 256, .inl (fun _ => 0))), ((u 1), .inl (cI, 256, .inl (fun _ => 0))), ((u 2), .inl (cI, 256, .inl (fun _ => 0)))]
abbrev rX3_init : Room := { frames := 1, cells := 3, slots := 768, locals := 40 }
theorem dfX3 : ∀ j, j < 3 → defaultValue (tyX3 j) = vp_V [.null, .null, .null] j := by
  intro j hj
  match j, hj with
  | 0, _ => rfl
  | 1, _ => rfl
  | 2, _ => rfl
  | n + 3, h => exact absurd h (by omega)
set_option maxRecDepth 100000 in
set_option maxHeartbeats 4000000 in
theorem iX3 (l : Launch) (D : va_G) (cI cJ cZ cS : ClassId) (tb : Nat) (a_t sz : Nat) : Met l yX3_init (Cond.code yX3_init cX3_init 1 none :: wA) rX3_init (q_Pre D cI cJ cZ cS tb [.ref a_t] sz [(a_t, .inr (3, [.null, .null, .null]))]) (q_Rn D (va_A [(a_t, .inr (3, [.null, .null, .null]))] sz) (fun u => nX3 cI cJ cZ cS a_t u)) 3 768 (va_A [(a_t, .inr (3, [.null, .null, .null]))] sz) := by
  refine q_enter (Qf := fun A => q_Rn D A (fun u => nX3 cI cJ cZ cS a_t u)) (by decide) rfl (Nat.le_of_ble_eq_true rfl) ?_
  intro p e s m below meth c A ls fx hname h hl
  have hin : meth.name = "<init>" := hname
  have hx := fx.1
  have hb := fx.2.1
  have hl : lv_has ls 1 [(0, .ref a_t)] := hl
  generalize h9 : s.heap = H at h ⊢
  clear h9
  generalize h9 : ([] : List Loc) = locs at h ⊢
  clear h9
  refine lv_aload_n hx hb dX3_init_0 rfl (lv_at hl 0 rfl) ?_
  refine q_oinit fx hl.1 k_143 k_65 k_66 dX3_init_1 (Nat.le_of_ble_eq_true rfl) (Nat.le_of_ble_eq_true rfl) ?_
  refine lv_aload_n hx hb dX3_init_4 rfl (lv_at hl 0 rfl) ?_
  refine lv_sipush (v := 256) hx hb dX3_init_5 (by decide) ?_
  refine q_newI (N := 256) fx h k_109 (by decide) (by decide) (Nat.le_of_ble_eq_true rfl) (Nat.le_of_ble_eq_true rfl) (Nat.le_of_ble_eq_true rfl) dX3_init_8 (fun q1 H h => ?_)
  have h : q_H D A s [(a_t, .inr (3, [.null, .null, .null])), (q1, .inl (cI, 256, .inl (fun _ => 0)))] H locs := h
  refine W.widen (k := 1) (n := 256) (Nat.le_of_ble_eq_true rfl) (Nat.le_of_ble_eq_true rfl) ?_
  refine q_putF (v := .ref q1) (ws' := [(a_t, .inr (3, [.ref q1, .null, .null])), (q1, .inl (cI, 256, .inl (fun _ => 0)))]) fx hin inX3 tyX3 tyX3_ok nmX3 h 0 rfl rfl 0 (by decide) k_144 rfl rfl rfl rfl (Nat.le_of_ble_eq_true rfl) rfl dX3_init_10 (fun H locs h => ?_)
  refine lv_aload_n hx hb dX3_init_13 rfl (lv_at hl 0 rfl) ?_
  refine lv_sipush (v := 256) hx hb dX3_init_14 (by decide) ?_
  refine q_newI (N := 256) fx h k_109 (by decide) (by decide) (Nat.le_of_ble_eq_true rfl) (Nat.le_of_ble_eq_true rfl) (Nat.le_of_ble_eq_true rfl) dX3_init_17 (fun q2 H h => ?_)
  have h : q_H D A s [(a_t, .inr (3, [.ref q1, .null, .null])), (q1, .inl (cI, 256, .inl (fun _ => 0))), (q2, .inl (cI, 256, .inl (fun _ => 0)))] H locs := h
  refine W.widen (k := 2) (n := 512) (Nat.le_of_ble_eq_true rfl) (Nat.le_of_ble_eq_true rfl) ?_
  refine q_putF (v := .ref q2) (ws' := [(a_t, .inr (3, [.ref q1, .ref q2, .null])), (q1, .inl (cI, 256, .inl (fun _ => 0))), (q2, .inl (cI, 256, .inl (fun _ => 0)))]) fx hin inX3 tyX3 tyX3_ok nmX3 h 0 rfl rfl 1 (by decide) k_145 rfl rfl rfl rfl (Nat.le_of_ble_eq_true rfl) rfl dX3_init_19 (fun H locs h => ?_)
  refine lv_aload_n hx hb dX3_init_22 rfl (lv_at hl 0 rfl) ?_
  refine lv_sipush (v := 256) hx hb dX3_init_23 (by decide) ?_
  refine q_newI (N := 256) fx h k_109 (by decide) (by decide) (Nat.le_of_ble_eq_true rfl) (Nat.le_of_ble_eq_true rfl) (Nat.le_of_ble_eq_true rfl) dX3_init_26 (fun q3 H h => ?_)
  have h : q_H D A s [(a_t, .inr (3, [.ref q1, .ref q2, .null])), (q1, .inl (cI, 256, .inl (fun _ => 0))), (q2, .inl (cI, 256, .inl (fun _ => 0))), (q3, .inl (cI, 256, .inl (fun _ => 0)))] H locs := h
  refine W.widen (k := 3) (n := 768) (Nat.le_of_ble_eq_true rfl) (Nat.le_of_ble_eq_true rfl) ?_
  refine q_putF (v := .ref q3) (ws' := [(a_t, .inr (3, [.ref q1, .ref q2, .ref q3])), (q1, .inl (cI, 256, .inl (fun _ => 0))), (q2, .inl (cI, 256, .inl (fun _ => 0))), (q3, .inl (cI, 256, .inl (fun _ => 0)))]) fx hin inX3 tyX3 tyX3_ok nmX3 h 0 rfl rfl 2 (by decide) k_146 rfl rfl rfl rfl (Nat.le_of_ble_eq_true rfl) rfl dX3_init_28 (fun H locs h => ?_)
  have h := q_perm (ws' := nX3 cI cJ cZ cS a_t (fun k => ([q1, q2, q3] : List Nat).getD k 0)) h [0, 1, 2, 3] (by decide) rfl
  exact q_retn (fun u => nX3 cI cJ cZ cS a_t u) (fun k => ([q1, q2, q3] : List Nat).getD k 0) fx h dX3_init_31
abbrev nX4 (cI cJ cZ cS : ClassId) (a_t : Nat) (u : Nat → Nat) : va_W := [(a_t, .inr (4, [.ref (u 0), .ref (u 5), .int 0, .ref (u 10), .ref (u 12), .ref (u 16), .ref (u 25)])), ((u 0), .inr (0, [.int 0, .int 0, .int 0, .ref (u 1), .ref (u 2), .ref (u 3), .ref (u 4)])), ((u 1), .inl (cI, 8, .inl (fun _ => 0))), ((u 2), .inl (cI, 8, .inl (fun _ => 0))), ((u 3), .inl (cJ, 32, .inr (.inl (fillF 32 (-1) (fun _ => 0))))), ((u 4), .inl (cI, 256, .inl (fillF 256 (-1) (fun _ => 0)))), ((u 5), .inr (0, [.int 0, .int 0, .int 0, .ref (u 6), .ref (u 7), .ref (u 8), .ref (u 9)])), ((u 6), .inl (cI, 8, .inl (fun _ => 0))), ((u 7), .inl (cI, 8, .inl (fun _ => 0))), ((u 8), .inl (cJ, 32, .inr (.inl (fillF 32 (-1) (fun _ => 0))))), ((u 9), .inl (cI, 256, .inl (fillF 256 (-1) (fun _ => 0)))), ((u 10), .inr (2, [.ref (u 11), .int 0, .int 0, .int (-1), .int 0, .int 0])), ((u 11), .inl (cI, 60, .inl (fun _ => 0))), ((u 12), .inr (3, [.ref (u 13), .ref (u 14), .ref (u 15)])), ((u 13), .inl (cI, 256, .inl (fun _ => 0))), ((u 14), .inl (cI, 256, .inl (fun _ => 0))), ((u 15), .inl (cI, 256, .inl (fun _ => 0))), ((u 16), .inl (cS, 4, .inr (.inr (.inr (.inr (q_sh (u 17) (u 19) (u 21) (u 23))))))), ((u 17), .inr (1, [.int 0, .int 0, .ref (u 18)])), ((u 18), .inl (cJ, 40, .inr (.inl (fun _ => 0)))), ((u 19), .inr (1, [.int 0, .int 0, .ref (u 20)])), ((u 20), .inl (cJ, 40, .inr (.inl (fun _ => 0)))), ((u 21), .inr (1, [.int 0, .int 0, .ref (u 22)])), ((u 22), .inl (cJ, 40, .inr (.inl (fun _ => 0)))), ((u 23), .inr (1, [.int 0, .int 0, .ref (u 24)])), ((u 24), .inl (cJ, 40, .inr (.inl (fun _ => 0)))), ((u 25), .inl (cI, 7, .inl (fun _ => 0)))]
abbrev rX4_init : Room := { frames := 2, cells := 26, slots := 1642, locals := 60 }
theorem dfX4 : ∀ j, j < 7 → defaultValue (tyX4 j) = vp_V [.null, .null, .int 0, .null, .null, .null, .null] j := by
  intro j hj
  match j, hj with
  | 0, _ => rfl
  | 1, _ => rfl
  | 2, _ => rfl
  | 3, _ => rfl
  | 4, _ => rfl
  | 5, _ => rfl
  | 6, _ => rfl
  | n + 7, h => exact absurd h (by omega)
set_option maxRecDepth 100000 in
set_option maxHeartbeats 4000000 in
theorem iX4 (l : Launch) (D : va_G) (cI cJ cZ cS : ClassId) (tb : Nat) (a_t sz : Nat) : Met l yX4_init (Cond.code yX4_init cX4_init 2 none :: wA) rX4_init (q_Pre D cI cJ cZ cS tb [.ref a_t] sz [(a_t, .inr (4, [.null, .null, .int 0, .null, .null, .null, .null]))]) (q_Rn D (va_A [(a_t, .inr (4, [.null, .null, .int 0, .null, .null, .null, .null]))] sz) (fun u => nX4 cI cJ cZ cS a_t u)) 26 1642 (va_A [(a_t, .inr (4, [.null, .null, .int 0, .null, .null, .null, .null]))] sz) := by
  refine q_enter (Qf := fun A => q_Rn D A (fun u => nX4 cI cJ cZ cS a_t u)) (by decide) rfl (Nat.le_of_ble_eq_true rfl) ?_
  intro p e s m below meth c A ls fx hname h hl
  have hin : meth.name = "<init>" := hname
  have hx := fx.1
  have hb := fx.2.1
  have hl : lv_has ls 2 [(0, .ref a_t)] := hl
  generalize h9 : s.heap = H at h ⊢
  clear h9
  generalize h9 : ([] : List Loc) = locs at h ⊢
  clear h9
  refine lv_aload_n hx hb dX4_init_0 rfl (lv_at hl 0 rfl) ?_
  refine q_oinit fx hl.1 k_64 k_65 k_66 dX4_init_1 (Nat.le_of_ble_eq_true rfl) (Nat.le_of_ble_eq_true rfl) ?_
  refine lv_aload_n hx hb dX4_init_4 rfl (lv_at hl 0 rfl) ?_
  refine q_new (ci := 0) (fs := [.int 0, .int 0, .int 0, .null, .null, .null, .null]) fx h inX0 tyX0 tyX0_ok k_67 k_68 k_50 rfl dfX0 (Nat.le_of_ble_eq_true rfl) (Nat.le_of_ble_eq_true rfl) dX4_init_5 (fun q1 H h => ?_)
  have h : q_H D A s [(a_t, .inr (4, [.null, .null, .int 0, .null, .null, .null, .null])), (q1, .inr (0, [.int 0, .int 0, .int 0, .null, .null, .null, .null]))] H locs := h
  refine W.widen (k := 1) (n := 7) (Nat.le_of_ble_eq_true rfl) (Nat.le_of_ble_eq_true rfl) ?_
  refine lv_dup hx hb dX4_init_8 rfl ?_
  refine q_cn (rest := [.ref q1, .ref a_t]) (wr := [(a_t, .inr (4, [.null, .null, .int 0, .null, .null, .null, .null]))]) fx h [1] [0] rfl rfl rfl (by decide) (q_runI fx h hl.1 [1] rfl rfl (iX0 l D cI cJ cZ cS tb q1 H.size) miX0_init k_69 ⟨rfl, rfl⟩ ⟨Nat.le_of_ble_eq_true rfl, Nat.le_of_ble_eq_true rfl⟩ rfl rfl (Nat.le_of_ble_eq_true rfl) dX4_init_9 ⟨Nat.le_of_ble_eq_true rfl, Nat.le_of_ble_eq_true rfl⟩) (fun u2 H locs h => ?_)
  have h : q_H D A s [(a_t, .inr (4, [.null, .null, .int 0, .null, .null, .null, .null])), (q1, .inr (0, [.int 0, .int 0, .int 0, .ref (u2 0), .ref (u2 1), .ref (u2 2), .ref (u2 3)])), ((u2 0), .inl (cI, 8, .inl (fun _ => 0))), ((u2 1), .inl (cI, 8, .inl (fun _ => 0))), ((u2 2), .inl (cJ, 32, .inr (.inl (fillF 32 (-1) (fun _ => 0))))), ((u2 3), .inl (cI, 256, .inl (fillF 256 (-1) (fun _ => 0))))] H locs := h
  refine W.widen (k := 5) (n := 311) (Nat.le_of_ble_eq_true rfl) (Nat.le_of_ble_eq_true rfl) ?_
  refine q_putF (v := .ref q1) (ws' := [(a_t, .inr (4, [.ref q1, .null, .int 0, .null, .null, .null, .null])), (q1, .inr (0, [.int 0, .int 0, .int 0, .ref (u2 0), .ref (u2 1), .ref (u2 2), .ref (u2 3)])), ((u2 0), .inl (cI, 8, .inl (fun _ => 0))), ((u2 1), .inl (cI, 8, .inl (fun _ => 0))), ((u2 2), .inl (cJ, 32, .inr (.inl (fillF 32 (-1) (fun _ => 0))))), ((u2 3), .inl (cI, 256, .inl (fillF 256 (-1) (fun _ => 0))))]) fx hin inX4 tyX4 tyX4_ok nmX4 h 0 rfl rfl 0 (by decide) k_174 rfl rfl rfl rfl (Nat.le_of_ble_eq_true rfl) rfl dX4_init_12 (fun H locs h => ?_)
  refine lv_aload_n hx hb dX4_init_15 rfl (lv_at hl 0 rfl) ?_
  refine q_new (ci := 0) (fs := [.int 0, .int 0, .int 0, .null, .null, .null, .null]) fx h inX0 tyX0 tyX0_ok k_67 k_68 k_50 rfl dfX0 (Nat.le_of_ble_eq_true rfl) (Nat.le_of_ble_eq_true rfl) dX4_init_16 (fun q3 H h => ?_)
  have h : q_H D A s [(a_t, .inr (4, [.ref q1, .null, .int 0, .null, .null, .null, .null])), (q1, .inr (0, [.int 0, .int 0, .int 0, .ref (u2 0), .ref (u2 1), .ref (u2 2), .ref (u2 3)])), ((u2 0), .inl (cI, 8, .inl (fun _ => 0))), ((u2 1), .inl (cI, 8, .inl (fun _ => 0))), ((u2 2), .inl (cJ, 32, .inr (.inl (fillF 32 (-1) (fun _ => 0))))), ((u2 3), .inl (cI, 256, .inl (fillF 256 (-1) (fun _ => 0)))), (q3, .inr (0, [.int 0, .int 0, .int 0, .null, .null, .null, .null]))] H locs := h
  refine W.widen (k := 6) (n := 318) (Nat.le_of_ble_eq_true rfl) (Nat.le_of_ble_eq_true rfl) ?_
  refine lv_dup hx hb dX4_init_19 rfl ?_
  refine q_cn (rest := [.ref q3, .ref a_t]) (wr := [(a_t, .inr (4, [.ref q1, .null, .int 0, .null, .null, .null, .null])), (q1, .inr (0, [.int 0, .int 0, .int 0, .ref (u2 0), .ref (u2 1), .ref (u2 2), .ref (u2 3)])), ((u2 0), .inl (cI, 8, .inl (fun _ => 0))), ((u2 1), .inl (cI, 8, .inl (fun _ => 0))), ((u2 2), .inl (cJ, 32, .inr (.inl (fillF 32 (-1) (fun _ => 0))))), ((u2 3), .inl (cI, 256, .inl (fillF 256 (-1) (fun _ => 0))))]) fx h [6] [0, 1, 2, 3, 4, 5] rfl rfl rfl (by decide) (q_runI fx h hl.1 [6] rfl rfl (iX0 l D cI cJ cZ cS tb q3 H.size) miX0_init k_69 ⟨rfl, rfl⟩ ⟨Nat.le_of_ble_eq_true rfl, Nat.le_of_ble_eq_true rfl⟩ rfl rfl (Nat.le_of_ble_eq_true rfl) dX4_init_20 ⟨Nat.le_of_ble_eq_true rfl, Nat.le_of_ble_eq_true rfl⟩) (fun u4 H locs h => ?_)
  have h : q_H D A s [(a_t, .inr (4, [.ref q1, .null, .int 0, .null, .null, .null, .null])), (q1, .inr (0, [.int 0, .int 0, .int 0, .ref (u2 0), .ref (u2 1), .ref (u2 2), .ref (u2 3)])), ((u2 0), .inl (cI, 8, .inl (fun _ => 0))), ((u2 1), .inl (cI, 8, .inl (fun _ => 0))), ((u2 2), .inl (cJ, 32, .inr (.inl (fillF 32 (-1) (fun _ => 0))))), ((u2 3), .inl (cI, 256, .inl (fillF 256 (-1) (fun _ => 0)))), (q3, .inr (0, [.int 0, .int 0, .int 0, .ref (u4 0), .ref (u4 1), .ref (u4 2), .ref (u4 3)])), ((u4 0), .inl (cI, 8, .inl (fun _ => 0))), ((u4 1), .inl (cI, 8, .inl (fun _ => 0))), ((u4 2), .inl (cJ, 32, .inr (.inl (fillF 32 (-1) (fun _ => 0))))), ((u4 3), .inl (cI, 256, .inl (fillF 256 (-1) (fun _ => 0))))] H locs := h
  refine W.widen (k := 10) (n := 622) (Nat.le_of_ble_eq_true rfl) (Nat.le_of_ble_eq_true rfl) ?_
  refine q_putF (v := .ref q3) (ws' := [(a_t, .inr (4, [.ref q1, .ref q3, .int 0, .null, .null, .null, .null])), (q1, .inr (0, [.int 0, .int 0, .int 0, .ref (u2 0), .ref (u2 1), .ref (u2 2), .ref (u2 3)])), ((u2 0), .inl (cI, 8, .inl (fun _ => 0))), ((u2 1), .inl (cI, 8, .inl (fun _ => 0))), ((u2 2), .inl (cJ, 32, .inr (.inl (fillF 32 (-1) (fun _ => 0))))), ((u2 3), .inl (cI, 256, .inl (fillF 256 (-1) (fun _ => 0)))), (q3, .inr (0, [.int 0, .int 0, .int 0, .ref (u4 0), .ref (u4 1), .ref (u4 2), .ref (u4 3)])), ((u4 0), .inl (cI, 8, .inl (fun _ => 0))), ((u4 1), .inl (cI, 8, .inl (fun _ => 0))), ((u4 2), .inl (cJ, 32, .inr (.inl (fillF 32 (-1) (fun _ => 0))))), ((u4 3), .inl (cI, 256, .inl (fillF 256 (-1) (fun _ => 0))))]) fx hin inX4 tyX4 tyX4_ok nmX4 h 0 rfl rfl 1 (by decide) k_175 rfl rfl rfl rfl (Nat.le_of_ble_eq_true rfl) rfl dX4_init_23 (fun H locs h => ?_)
  refine lv_aload_n hx hb dX4_init_26 rfl (lv_at hl 0 rfl) ?_
  refine q_new (ci := 2) (fs := [.null, .int 0, .int 0, .int 0, .int 0, .int 0]) fx h inX2 tyX2 tyX2_ok k_111 k_112 k_52 rfl dfX2 (Nat.le_of_ble_eq_true rfl) (Nat.le_of_ble_eq_true rfl) dX4_init_27 (fun q5 H h => ?_)
  have h : q_H D A s [(a_t, .inr (4, [.ref q1, .ref q3, .int 0, .null, .null, .null, .null])), (q1, .inr (0, [.int 0, .int 0, .int 0, .ref (u2 0), .ref (u2 1), .ref (u2 2), .ref (u2 3)])), ((u2 0), .inl (cI, 8, .inl (fun _ => 0))), ((u2 1), .inl (cI, 8, .inl (fun _ => 0))), ((u2 2), .inl (cJ, 32, .inr (.inl (fillF 32 (-1) (fun _ => 0))))), ((u2 3), .inl (cI, 256, .inl (fillF 256 (-1) (fun _ => 0)))), (q3, .inr (0, [.int 0, .int 0, .int 0, .ref (u4 0), .ref (u4 1), .ref (u4 2), .ref (u4 3)])), ((u4 0), .inl (cI, 8, .inl (fun _ => 0))), ((u4 1), .inl (cI, 8, .inl (fun _ => 0))), ((u4 2), .inl (cJ, 32, .inr (.inl (fillF 32 (-1) (fun _ => 0))))), ((u4 3), .inl (cI, 256, .inl (fillF 256 (-1) (fun _ => 0)))), (q5, .inr (2, [.null, .int 0, .int 0, .int 0, .int 0, .int 0]))] H locs := h
  refine W.widen (k := 11) (n := 628) (Nat.le_of_ble_eq_true rfl) (Nat.le_of_ble_eq_true rfl) ?_
  refine lv_dup hx hb dX4_init_30 rfl ?_
  refine q_cn (rest := [.ref q5, .ref a_t]) (wr := [(a_t, .inr (4, [.ref q1, .ref q3, .int 0, .null, .null, .null, .null])), (q1, .inr (0, [.int 0, .int 0, .int 0, .ref (u2 0), .ref (u2 1), .ref (u2 2), .ref (u2 3)])), ((u2 0), .inl (cI, 8, .inl (fun _ => 0))), ((u2 1), .inl (cI, 8, .inl (fun _ => 0))), ((u2 2), .inl (cJ, 32, .inr (.inl (fillF 32 (-1) (fun _ => 0))))), ((u2 3), .inl (cI, 256, .inl (fillF 256 (-1) (fun _ => 0)))), (q3, .inr (0, [.int 0, .int 0, .int 0, .ref (u4 0), .ref (u4 1), .ref (u4 2), .ref (u4 3)])), ((u4 0), .inl (cI, 8, .inl (fun _ => 0))), ((u4 1), .inl (cI, 8, .inl (fun _ => 0))), ((u4 2), .inl (cJ, 32, .inr (.inl (fillF 32 (-1) (fun _ => 0))))), ((u4 3), .inl (cI, 256, .inl (fillF 256 (-1) (fun _ => 0))))]) fx h [11] [0, 1, 2, 3, 4, 5, 6, 7, 8, 9, 10] rfl rfl rfl (by decide) (q_runI fx h hl.1 [11] rfl rfl (iX2 l D cI cJ cZ cS tb q5 H.size) miX2_init k_113 ⟨rfl, rfl⟩ ⟨Nat.le_of_ble_eq_true rfl, Nat.le_of_ble_eq_true rfl⟩ rfl rfl (Nat.le_of_ble_eq_true rfl) dX4_init_31 ⟨Nat.le_of_ble_eq_true rfl, Nat.le_of_ble_eq_true rfl⟩) (fun u6 H locs h => ?_)
  have h : q_H D A s [(a_t, .inr (4, [.ref q1, .ref q3, .int 0, .null, .null, .null, .null])), (q1, .inr (0, [.int 0, .int 0, .int 0, .ref (u2 0), .ref (u2 1), .ref (u2 2), .ref (u2 3)])), ((u2 0), .inl (cI, 8, .inl (fun _ => 0))), ((u2 1), .inl (cI, 8, .inl (fun _ => 0))), ((u2 2), .inl (cJ, 32, .inr (.inl (fillF 32 (-1) (fun _ => 0))))), ((u2 3), .inl (cI, 256, .inl (fillF 256 (-1) (fun _ => 0)))), (q3, .inr (0, [.int 0, .int 0, .int 0, .ref (u4 0), .ref (u4 1), .ref (u4 2), .ref (u4 3)])), ((u4 0), .inl (cI, 8, .inl (fun _ => 0))), ((u4 1), .inl (cI, 8, .inl (fun _ => 0))), ((u4 2), .inl (cJ, 32, .inr (.inl (fillF 32 (-1) (fun _ => 0))))), ((u4 3), .inl (cI, 256, .inl (fillF 256 (-1) (fun _ => 0)))), (q5, .inr (2, [.ref (u6 0), .int 0, .int 0, .int (-1), .int 0, .int 0])), ((u6 0), .inl (cI, 60, .inl (fun _ => 0)))] H locs := h
  refine W.widen (k := 12) (n := 688) (Nat.le_of_ble_eq_true rfl) (Nat.le_of_ble_eq_true rfl) ?_
  refine q_putF (v := .ref q5) (ws' := [(a_t, .inr (4, [.ref q1, .ref q3, .int 0, .ref q5, .null, .null, .null])), (q1, .inr (0, [.int 0, .int 0, .int 0, .ref (u2 0), .ref (u2 1), .ref (u2 2), .ref (u2 3)])), ((u2 0), .inl (cI, 8, .inl (fun _ => 0))), ((u2 1), .inl (cI, 8, .inl (fun _ => 0))), ((u2 2), .inl (cJ, 32, .inr (.inl (fillF 32 (-1) (fun _ => 0))))), ((u2 3), .inl (cI, 256, .inl (fillF 256 (-1) (fun _ => 0)))), (q3, .inr (0, [.int 0, .int 0, .int 0, .ref (u4 0), .ref (u4 1), .ref (u4 2), .ref (u4 3)])), ((u4 0), .inl (cI, 8, .inl (fun _ => 0))), ((u4 1), .inl (cI, 8, .inl (fun _ => 0))), ((u4 2), .inl (cJ, 32, .inr (.inl (fillF 32 (-1) (fun _ => 0))))), ((u4 3), .inl (cI, 256, .inl (fillF 256 (-1) (fun _ => 0)))), (q5, .inr (2, [.ref (u6 0), .int 0, .int 0, .int (-1), .int 0, .int 0])), ((u6 0), .inl (cI, 60, .inl (fun _ => 0)))]) fx hin inX4 tyX4 tyX4_ok nmX4 h 0 rfl rfl 3 (by decide) k_177 rfl rfl rfl rfl (Nat.le_of_ble_eq_true rfl) rfl dX4_init_34 (fun H locs h => ?_)
  refine lv_aload_n hx hb dX4_init_37 rfl (lv_at hl 0 rfl) ?_
  refine q_new (ci := 3) (fs := [.null, .null, .null]) fx h inX3 tyX3 tyX3_ok k_138 k_139 k_53 rfl dfX3 (Nat.le_of_ble_eq_true rfl) (Nat.le_of_ble_eq_true rfl) dX4_init_38 (fun q7 H h => ?_)
  have h : q_H D A s [(a_t, .inr (4, [.ref q1, .ref q3, .int 0, .ref q5, .null, .null, .null])), (q1, .inr (0, [.int 0, .int 0, .int 0, .ref (u2 0), .ref (u2 1), .ref (u2 2), .ref (u2 3)])), ((u2 0), .inl (cI, 8, .inl (fun _ => 0))), ((u2 1), .inl (cI, 8, .inl (fun _ => 0))), ((u2 2), .inl (cJ, 32, .inr (.inl (fillF 32 (-1) (fun _ => 0))))), ((u2 3), .inl (cI, 256, .inl (fillF 256 (-1) (fun _ => 0)))), (q3, .inr (0, [.int 0, .int 0, .int 0, .ref (u4 0), .ref (u4 1), .ref (u4 2), .ref (u4 3)])), ((u4 0), .inl (cI, 8, .inl (fun _ => 0))), ((u4 1), .inl (cI, 8, .inl (fun _ => 0))), ((u4 2), .inl (cJ, 32, .inr (.inl (fillF 32 (-1) (fun _ => 0))))), ((u4 3), .inl (cI, 256, .inl (fillF 256 (-1) (fun _ => 0)))), (q5, .inr (2, [.ref (u6 0), .int 0, .int 0, .int (-1), .int 0, .int 0])), ((u6 0), .inl (cI, 60, .inl (fun _ => 0))), (q7, .inr (3, [.null, .null, .null]))] H locs := h
  refine W.widen (k := 13) (n := 691) (Nat.le_of_ble_eq_true rfl) (Nat.le_of_ble_eq_true rfl) ?_
  refine lv_dup hx hb dX4_init_41 rfl ?_
  refine q_cn (rest := [.ref q7, .ref a_t]) (wr := [(a_t, .inr (4, [.ref q1, .ref q3, .int 0, .ref q5, .null, .null, .null])), (q1, .inr (0, [.int 0, .int 0, .int 0, .ref (u2 0), .ref (u2 1), .ref (u2 2), .ref (u2 3)])), ((u2 0), .inl (cI, 8, .inl (fun _ => 0))), ((u2 1), .inl (cI, 8, .inl (fun _ => 0))), ((u2 2), .inl (cJ, 32, .inr (.inl (fillF 32 (-1) (fun _ => 0))))), ((u2 3), .inl (cI, 256, .inl (fillF 256 (-1) (fun _ => 0)))), (q3, .inr (0, [.int 0, .int 0, .int 0, .ref (u4 0), .ref (u4 1), .ref (u4 2), .ref (u4 3)])), ((u4 0), .inl (cI, 8, .inl (fun _ => 0))), ((u4 1), .inl (cI, 8, .inl (fun _ => 0))), ((u4 2), .inl (cJ, 32, .inr (.inl (fillF 32 (-1) (fun _ => 0))))), ((u4 3), .inl (cI, 256, .inl (fillF 256 (-1) (fun _ => 0)))), (q5, .inr (2, [.ref (u6 0), .int 0, .int 0, .int (-1), .int 0, .int 0])), ((u6 0), .inl (cI, 60, .inl (fun _ => 0)))]) fx h [13] [0, 1, 2, 3, 4, 5, 6, 7, 8, 9, 10, 11, 12] rfl rfl rfl (by decide) (q_runI fx h hl.1 [13] rfl rfl (iX3 l D cI cJ cZ cS tb q7 H.size) miX3_init k_140 ⟨rfl, rfl⟩ ⟨Nat.le_of_ble_eq_true rfl, Nat.le_of_ble_eq_true rfl⟩ rfl rfl (Nat.le_of_ble_eq_true rfl) dX4_init_42 ⟨Nat.le_of_ble_eq_true rfl, Nat.le_of_ble_eq_true rfl⟩) (fun u8 H locs h => ?_)
  have h : q_H D A s [(a_t, .inr (4, [.ref q1, .ref q3, .int 0, .ref q5, .null, .null, .null])), (q1, .inr (0, [.int 0, .int 0, .int 0, .ref (u2 0), .ref (u2 1), .ref (u2 2), .ref (u2 3)])), ((u2 0), .inl (cI, 8, .inl (fun _ => 0))), ((u2 1), .inl (cI, 8, .inl (fun _ => 0))), ((u2 2), .inl (cJ, 32, .inr (.inl (fillF 32 (-1) (fun _ => 0))))), ((u2 3), .inl (cI, 256, .inl (fillF 256 (-1) (fun _ => 0)))), (q3, .inr (0, [.int 0, .int 0, .int 0, .ref (u4 0), .ref (u4 1), .ref (u4 2), .ref (u4 3)])), ((u4 0), .inl (cI, 8, .inl (fun _ => 0))), ((u4 1), .inl (cI, 8, .inl (fun _ => 0))), ((u4 2), .inl (cJ, 32, .inr (.inl (fillF 32 (-1) (fun _ => 0))))), ((u4 3), .inl (cI, 256, .inl (fillF 256 (-1) (fun _ => 0)))), (q5, .inr (2, [.ref (u6 0), .int 0, .int 0, .int (-1), .int 0, .int 0])), ((u6 0), .inl (cI, 60, .inl (fun _ => 0))), (q7, .inr (3, [.ref (u8 0), .ref (u8 1), .ref (u8 2)])), ((u8 0), .inl (cI, 256, .inl (fun _ => 0))), ((u8 1), .inl (cI, 256, .inl (fun _ => 0))), ((u8 2), .inl (cI, 256, .inl (fun _ => 0)))] H locs := h
  refine W.widen (k := 16) (n := 1459) (Nat.le_of_ble_eq_true rfl) (Nat.le_of_ble_eq_true rfl) ?_
  refine q_putF (v := .ref q7) (ws' := [(a_t, .inr (4, [.ref q1, .ref q3, .int 0, .ref q5, .ref q7, .null, .null])), (q1, .inr (0, [.int 0, .int 0, .int 0, .ref (u2 0), .ref (u2 1), .ref (u2 2), .ref (u2 3)])), ((u2 0), .inl (cI, 8, .inl (fun _ => 0))), ((u2 1), .inl (cI, 8, .inl (fun _ => 0))), ((u2 2), .inl (cJ, 32, .inr (.inl (fillF 32 (-1) (fun _ => 0))))), ((u2 3), .inl (cI, 256, .inl (fillF 256 (-1) (fun _ => 0)))), (q3, .inr (0, [.int 0, .int 0, .int 0, .ref (u4 0), .ref (u4 1), .ref (u4 2), .ref (u4 3)])), ((u4 0), .inl (cI, 8, .inl (fun _ => 0))), ((u4 1), .inl (cI, 8, .inl (fun _ => 0))), ((u4 2), .inl (cJ, 32, .inr (.inl (fillF 32 (-1) (fun _ => 0))))), ((u4 3), .inl (cI, 256, .inl (fillF 256 (-1) (fun _ => 0)))), (q5, .inr (2, [.ref (u6 0), .int 0, .int 0, .int (-1), .int 0, .int 0])), ((u6 0), .inl (cI, 60, .inl (fun _ => 0))), (q7, .inr (3, [.ref (u8 0), .ref (u8 1), .ref (u8 2)])), ((u8 0), .inl (cI, 256, .inl (fun _ => 0))), ((u8 1), .inl (cI, 256, .inl (fun _ => 0))), ((u8 2), .inl (cI, 256, .inl (fun _ => 0)))]) fx hin inX4 tyX4 tyX4_ok nmX4 h 0 rfl rfl 4 (by decide) k_178 rfl rfl rfl rfl (Nat.le_of_ble_eq_true rfl) rfl dX4_init_45 (fun H locs h => ?_)
  refine lv_aload_n hx hb dX4_init_48 rfl (lv_at hl 0 rfl) ?_
  refine lv_iconst (v := 4) hx hb dX4_init_49 (by decide) ?_
  refine q_newS (N := 4) fx h k_154 (by decide) (by decide) (Nat.le_of_ble_eq_true rfl) (Nat.le_of_ble_eq_true rfl) (Nat.le_of_ble_eq_true rfl) dX4_init_50 (fun q9 H h => ?_)
  have h : q_H D A s [(a_t, .inr (4, [.ref q1, .ref q3, .int 0, .ref q5, .ref q7, .null, .null])), (q1, .inr (0, [.int 0, .int 0, .int 0, .ref (u2 0), .ref (u2 1), .ref (u2 2), .ref (u2 3)])), ((u2 0), .inl (cI, 8, .inl (fun _ => 0))), ((u2 1), .inl (cI, 8, .inl (fun _ => 0))), ((u2 2), .inl (cJ, 32, .inr (.inl (fillF 32 (-1) (fun _ => 0))))), ((u2 3), .inl (cI, 256, .inl (fillF 256 (-1) (fun _ => 0)))), (q3, .inr (0, [.int 0, .int 0, .int 0, .ref (u4 0), .ref (u4 1), .ref (u4 2), .ref (u4 3)])), ((u4 0), .inl (cI, 8, .inl (fun _ => 0))), ((u4 1), .inl (cI, 8, .inl (fun _ => 0))), ((u4 2), .inl (cJ, 32, .inr (.inl (fillF 32 (-1) (fun _ => 0))))), ((u4 3), .inl (cI, 256, .inl (fillF 256 (-1) (fun _ => 0)))), (q5, .inr (2, [.ref (u6 0), .int 0, .int 0, .int (-1), .int 0, .int 0])), ((u6 0), .inl (cI, 60, .inl (fun _ => 0))), (q7, .inr (3, [.ref (u8 0), .ref (u8 1), .ref (u8 2)])), ((u8 0), .inl (cI, 256, .inl (fun _ => 0))), ((u8 1), .inl (cI, 256, .inl (fun _ => 0))), ((u8 2), .inl (cI, 256, .inl (fun _ => 0))), (q9, .inl (cS, 4, .inr (.inr (.inr (.inr (fun _ => none))))))] H locs := h
  refine W.widen (k := 17) (n := 1463) (Nat.le_of_ble_eq_true rfl) (Nat.le_of_ble_eq_true rfl) ?_
  refine q_putF (v := .ref q9) (ws' := [(a_t, .inr (4, [.ref q1, .ref q3, .int 0, .ref q5, .ref q7, .ref q9, .null])), (q1, .inr (0, [.int 0, .int 0, .int 0, .ref (u2 0), .ref (u2 1), .ref (u2 2), .ref (u2 3)])), ((u2 0), .inl (cI, 8, .inl (fun _ => 0))), ((u2 1), .inl (cI, 8, .inl (fun _ => 0))), ((u2 2), .inl (cJ, 32, .inr (.inl (fillF 32 (-1) (fun _ => 0))))), ((u2 3), .inl (cI, 256, .inl (fillF 256 (-1) (fun _ => 0)))), (q3, .inr (0, [.int 0, .int 0, .int 0, .ref (u4 0), .ref (u4 1), .ref (u4 2), .ref (u4 3)])), ((u4 0), .inl (cI, 8, .inl (fun _ => 0))), ((u4 1), .inl (cI, 8, .inl (fun _ => 0))), ((u4 2), .inl (cJ, 32, .inr (.inl (fillF 32 (-1) (fun _ => 0))))), ((u4 3), .inl (cI, 256, .inl (fillF 256 (-1) (fun _ => 0)))), (q5, .inr (2, [.ref (u6 0), .int 0, .int 0, .int (-1), .int 0, .int 0])), ((u6 0), .inl (cI, 60, .inl (fun _ => 0))), (q7, .inr (3, [.ref (u8 0), .ref (u8 1), .ref (u8 2)])), ((u8 0), .inl (cI, 256, .inl (fun _ => 0))), ((u8 1), .inl (cI, 256, .inl (fun _ => 0))), ((u8 2), .inl (cI, 256, .inl (fun _ => 0))), (q9, .inl (cS, 4, .inr (.inr (.inr (.inr (fun _ => none))))))]) fx hin inX4 tyX4 tyX4_ok nmX4 h 0 rfl rfl 5 (by decide) k_179 rfl rfl rfl rfl (Nat.le_of_ble_eq_true rfl) rfl dX4_init_53 (fun H locs h => ?_)
  refine lv_iconst (v := 0) hx hb dX4_init_56 (by decide) ?_
  refine lv_istore_n (lv' := [(1, .int 0), (0, .ref a_t)]) hx hb dX4_init_57 rfl hl (by decide) rfl (fun ls hl => ?_)
  refine lv_iload_n hx hb dX4_init_58 rfl (lv_at hl 0 rfl) ?_
  refine lv_iconst (v := 4) hx hb dX4_init_59 (by decide) ?_
  refine lv_icmp_ge (tgt := 82) hx hb dX4_init_60 (by decide) (fun c9 => absurd c9 (by decide)) (fun _ => ?_)
  refine lv_aload_n hx hb dX4_init_63 rfl (lv_at hl 1 rfl) ?_
  refine q_get (v := .ref q9) fx inX4 h 0 rfl rfl 5 (by decide) k_179 rfl dX4_init_64 ?_
  refine lv_iload_n hx hb dX4_init_67 rfl (lv_at hl 0 rfl) ?_
  refine q_new (ci := 1) (fs := [.int 0, .int 0, .null]) fx h inX1 tyX1 tyX1_ok k_154 k_156 k_54 rfl dfX1 (Nat.le_of_ble_eq_true rfl) (Nat.le_of_ble_eq_true rfl) dX4_init_68 (fun q10 H h => ?_)
  have h : q_H D A s [(a_t, .inr (4, [.ref q1, .ref q3, .int 0, .ref q5, .ref q7, .ref q9, .null])), (q1, .inr (0, [.int 0, .int 0, .int 0, .ref (u2 0), .ref (u2 1), .ref (u2 2), .ref (u2 3)])), ((u2 0), .inl (cI, 8, .inl (fun _ => 0))), ((u2 1), .inl (cI, 8, .inl (fun _ => 0))), ((u2 2), .inl (cJ, 32, .inr (.inl (fillF 32 (-1) (fun _ => 0))))), ((u2 3), .inl (cI, 256, .inl (fillF 256 (-1) (fun _ => 0)))), (q3, .inr (0, [.int 0, .int 0, .int 0, .ref (u4 0), .ref (u4 1), .ref (u4 2), .ref (u4 3)])), ((u4 0), .inl (cI, 8, .inl (fun _ => 0))), ((u4 1), .inl (cI, 8, .inl (fun _ => 0))), ((u4 2), .inl (cJ, 32, .inr (.inl (fillF 32 (-1) (fun _ => 0))))), ((u4 3), .inl (cI, 256, .inl (fillF 256 (-1) (fun _ => 0)))), (q5, .inr (2, [.ref (u6 0), .int 0, .int 0, .int (-1), .int 0, .int 0])), ((u6 0), .inl (cI, 60, .inl (fun _ => 0))), (q7, .inr (3, [.ref (u8 0), .ref (u8 1), .ref (u8 2)])), ((u8 0), .inl (cI, 256, .inl (fun _ => 0))), ((u8 1), .inl (cI, 256, .inl (fun _ => 0))), ((u8 2), .inl (cI, 256, .inl (fun _ => 0))), (q9, .inl (cS, 4, .inr (.inr (.inr (.inr (fun _ => none)))))), (q10, .inr (1, [.int 0, .int 0, .null]))] H locs := h
  refine W.widen (k := 18) (n := 1466) (Nat.le_of_ble_eq_true rfl) (Nat.le_of_ble_eq_true rfl) ?_
  refine lv_dup hx hb dX4_init_71 rfl ?_
  refine q_cn (rest := [.ref q10, .int 0, .ref q9]) (wr := [(a_t, .inr (4, [.ref q1, .ref q3, .int 0, .ref q5, .ref q7, .ref q9, .null])), (q1, .inr (0, [.int 0, .int 0, .int 0, .ref (u2 0), .ref (u2 1), .ref (u2 2), .ref (u2 3)])), ((u2 0), .inl (cI, 8, .inl (fun _ => 0))), ((u2 1), .inl (cI, 8, .inl (fun _ => 0))), ((u2 2), .inl (cJ, 32, .inr (.inl (fillF 32 (-1) (fun _ => 0))))), ((u2 3), .inl (cI, 256, .inl (fillF 256 (-1) (fun _ => 0)))), (q3, .inr (0, [.int 0, .int 0, .int 0, .ref (u4 0), .ref (u4 1), .ref (u4 2), .ref (u4 3)])), ((u4 0), .inl (cI, 8, .inl (fun _ => 0))), ((u4 1), .inl (cI, 8, .inl (fun _ => 0))), ((u4 2), .inl (cJ, 32, .inr (.inl (fillF 32 (-1) (fun _ => 0))))), ((u4 3), .inl (cI, 256, .inl (fillF 256 (-1) (fun _ => 0)))), (q5, .inr (2, [.ref (u6 0), .int 0, .int 0, .int (-1), .int 0, .int 0])), ((u6 0), .inl (cI, 60, .inl (fun _ => 0))), (q7, .inr (3, [.ref (u8 0), .ref (u8 1), .ref (u8 2)])), ((u8 0), .inl (cI, 256, .inl (fun _ => 0))), ((u8 1), .inl (cI, 256, .inl (fun _ => 0))), ((u8 2), .inl (cI, 256, .inl (fun _ => 0))), (q9, .inl (cS, 4, .inr (.inr (.inr (.inr (fun _ => none))))))]) fx h [18] [0, 1, 2, 3, 4, 5, 6, 7, 8, 9, 10, 11, 12, 13, 14, 15, 16, 17] rfl rfl rfl (by decide) (q_runI fx h hl.1 [18] rfl rfl (iX1 l D cI cJ cZ cS tb q10 H.size) miX1_init k_157 ⟨rfl, rfl⟩ ⟨Nat.le_of_ble_eq_true rfl, Nat.le_of_ble_eq_true rfl⟩ rfl rfl (Nat.le_of_ble_eq_true rfl) dX4_init_72 ⟨Nat.le_of_ble_eq_true rfl, Nat.le_of_ble_eq_true rfl⟩) (fun u11 H locs h => ?_)
  have h : q_H D A s [(a_t, .inr (4, [.ref q1, .ref q3, .int 0, .ref q5, .ref q7, .ref q9, .null])), (q1, .inr (0, [.int 0, .int 0, .int 0, .ref (u2 0), .ref (u2 1), .ref (u2 2), .ref (u2 3)])), ((u2 0), .inl (cI, 8, .inl (fun _ => 0))), ((u2 1), .inl (cI, 8, .inl (fun _ => 0))), ((u2 2), .inl (cJ, 32, .inr (.inl (fillF 32 (-1) (fun _ => 0))))), ((u2 3), .inl (cI, 256, .inl (fillF 256 (-1) (fun _ => 0)))), (q3, .inr (0, [.int 0, .int 0, .int 0, .ref (u4 0), .ref (u4 1), .ref (u4 2), .ref (u4 3)])), ((u4 0), .inl (cI, 8, .inl (fun _ => 0))), ((u4 1), .inl (cI, 8, .inl (fun _ => 0))), ((u4 2), .inl (cJ, 32, .inr (.inl (fillF 32 (-1) (fun _ => 0))))), ((u4 3), .inl (cI, 256, .inl (fillF 256 (-1) (fun _ => 0)))), (q5, .inr (2, [.ref (u6 0), .int 0, .int 0, .int (-1), .int 0, .int 0])), ((u6 0), .inl (cI, 60, .inl (fun _ => 0))), (q7, .inr (3, [.ref (u8 0), .ref (u8 1), .ref (u8 2)])), ((u8 0), .inl (cI, 256, .inl (fun _ => 0))), ((u8 1), .inl (cI, 256, .inl (fun _ => 0))), ((u8 2), .inl (cI, 256, .inl (fun _ => 0))), (q9, .inl (cS, 4, .inr (.inr (.inr (.inr (fun _ => none)))))), (q10, .inr (1, [.int 0, .int 0, .ref (u11 0)])), ((u11 0), .inl (cJ, 40, .inr (.inl (fun _ => 0))))] H locs := h
  refine W.widen (k := 19) (n := 1506) (Nat.le_of_ble_eq_true rfl) (Nat.le_of_ble_eq_true rfl) ?_
  refine q_astS (ws' := [(a_t, .inr (4, [.ref q1, .ref q3, .int 0, .ref q5, .ref q7, .ref q9, .null])), (q1, .inr (0, [.int 0, .int 0, .int 0, .ref (u2 0), .ref (u2 1), .ref (u2 2), .ref (u2 3)])), ((u2 0), .inl (cI, 8, .inl (fun _ => 0))), ((u2 1), .inl (cI, 8, .inl (fun _ => 0))), ((u2 2), .inl (cJ, 32, .inr (.inl (fillF 32 (-1) (fun _ => 0))))), ((u2 3), .inl (cI, 256, .inl (fillF 256 (-1) (fun _ => 0)))), (q3, .inr (0, [.int 0, .int 0, .int 0, .ref (u4 0), .ref (u4 1), .ref (u4 2), .ref (u4 3)])), ((u4 0), .inl (cI, 8, .inl (fun _ => 0))), ((u4 1), .inl (cI, 8, .inl (fun _ => 0))), ((u4 2), .inl (cJ, 32, .inr (.inl (fillF 32 (-1) (fun _ => 0))))), ((u4 3), .inl (cI, 256, .inl (fillF 256 (-1) (fun _ => 0)))), (q5, .inr (2, [.ref (u6 0), .int 0, .int 0, .int (-1), .int 0, .int 0])), ((u6 0), .inl (cI, 60, .inl (fun _ => 0))), (q7, .inr (3, [.ref (u8 0), .ref (u8 1), .ref (u8 2)])), ((u8 0), .inl (cI, 256, .inl (fun _ => 0))), ((u8 1), .inl (cI, 256, .inl (fun _ => 0))), ((u8 2), .inl (cI, 256, .inl (fun _ => 0))), (q9, .inl (cS, 4, .inr (.inr (.inr (.inr (va_up (fun _ => none) 0 (some q10))))))), (q10, .inr (1, [.int 0, .int 0, .ref (u11 0)])), ((u11 0), .inl (cJ, 40, .inr (.inl (fun _ => 0))))]) fx h 17 18 rfl rfl 0 (vinK (by decide)) (by decide) rfl dX4_init_75 (fun H locs h => ?_)
  refine lv_iinc (v := 1) (lv' := [(1, .int 1), (0, .ref a_t)]) hx hb dX4_init_76 hl (k := 0) rfl (by decide) (by decide) rfl (fun ls hl => ?_)
  refine lv_goto (tgt := 58) hx hb dX4_init_79 (by decide) ?_
  refine lv_iload_n hx hb dX4_init_58 rfl (lv_at hl 0 rfl) ?_
  refine lv_iconst (v := 4) hx hb dX4_init_59 (by decide) ?_
  refine lv_icmp_ge (tgt := 82) hx hb dX4_init_60 (by decide) (fun c9 => absurd c9 (by decide)) (fun _ => ?_)
  refine lv_aload_n hx hb dX4_init_63 rfl (lv_at hl 1 rfl) ?_
  refine q_get (v := .ref q9) fx inX4 h 0 rfl rfl 5 (by decide) k_179 rfl dX4_init_64 ?_
  refine lv_iload_n hx hb dX4_init_67 rfl (lv_at hl 0 rfl) ?_
  refine q_new (ci := 1) (fs := [.int 0, .int 0, .null]) fx h inX1 tyX1 tyX1_ok k_154 k_156 k_54 rfl dfX1 (Nat.le_of_ble_eq_true rfl) (Nat.le_of_ble_eq_true rfl) dX4_init_68 (fun q12 H h => ?_)
  have h : q_H D A s [(a_t, .inr (4, [.ref q1, .ref q3, .int 0, .ref q5, .ref q7, .ref q9, .null])), (q1, .inr (0, [.int 0, .int 0, .int 0, .ref (u2 0), .ref (u2 1), .ref (u2 2), .ref (u2 3)])), ((u2 0), .inl (cI, 8, .inl (fun _ => 0))), ((u2 1), .inl (cI, 8, .inl (fun _ => 0))), ((u2 2), .inl (cJ, 32, .inr (.inl (fillF 32 (-1) (fun _ => 0))))), ((u2 3), .inl (cI, 256, .inl (fillF 256 (-1) (fun _ => 0)))), (q3, .inr (0, [.int 0, .int 0, .int 0, .ref (u4 0), .ref (u4 1), .ref (u4 2), .ref (u4 3)])), ((u4 0), .inl (cI, 8, .inl (fun _ => 0))), ((u4 1), .inl (cI, 8, .inl (fun _ => 0))), ((u4 2), .inl (cJ, 32, .inr (.inl (fillF 32 (-1) (fun _ => 0))))), ((u4 3), .inl (cI, 256, .inl (fillF 256 (-1) (fun _ => 0)))), (q5, .inr (2, [.ref (u6 0), .int 0, .int 0, .int (-1), .int 0, .int 0])), ((u6 0), .inl (cI, 60, .inl (fun _ => 0))), (q7, .inr (3, [.ref (u8 0), .ref (u8 1), .ref (u8 2)])), ((u8 0), .inl (cI, 256, .inl (fun _ => 0))), ((u8 1), .inl (cI, 256, .inl (fun _ => 0))), ((u8 2), .inl (cI, 256, .inl (fun _ => 0))), (q9, .inl (cS, 4, .inr (.inr (.inr (.inr (va_up (fun _ => none) 0 (some q10))))))), (q10, .inr (1, [.int 0, .int 0, .ref (u11 0)])), ((u11 0), .inl (cJ, 40, .inr (.inl (fun _ => 0)))), (q12, .inr (1, [.int 0, .int 0, .null]))] H locs := h
  refine W.widen (k := 20) (n := 1509) (Nat.le_of_ble_eq_true rfl) (Nat.le_of_ble_eq_true rfl) ?_
  refine lv_dup hx hb dX4_init_71 rfl ?_
  refine q_cn (rest := [.ref q12, .int 1, .ref q9]) (wr := [(a_t, .inr (4, [.ref q1, .ref q3, .int 0, .ref q5, .ref q7, .ref q9, .null])), (q1, .inr (0, [.int 0, .int 0, .int 0, .ref (u2 0), .ref (u2 1), .ref (u2 2), .ref (u2 3)])), ((u2 0), .inl (cI, 8, .inl (fun _ => 0))), ((u2 1), .inl (cI, 8, .inl (fun _ => 0))), ((u2 2), .inl (cJ, 32, .inr (.inl (fillF 32 (-1) (fun _ => 0))))), ((u2 3), .inl (cI, 256, .inl (fillF 256 (-1) (fun _ => 0)))), (q3, .inr (0, [.int 0, .int 0, .int 0, .ref (u4 0), .ref (u4 1), .ref (u4 2), .ref (u4 3)])), ((u4 0), .inl (cI, 8, .inl (fun _ => 0))), ((u4 1), .inl (cI, 8, .inl (fun _ => 0))), ((u4 2), .inl (cJ, 32, .inr (.inl (fillF 32 (-1) (fun _ => 0))))), ((u4 3), .inl (cI, 256, .inl (fillF 256 (-1) (fun _ => 0)))), (q5, .inr (2, [.ref (u6 0), .int 0, .int 0, .int (-1), .int 0, .int 0])), ((u6 0), .inl (cI, 60, .inl (fun _ => 0))), (q7, .inr (3, [.ref (u8 0), .ref (u8 1), .ref (u8 2)])), ((u8 0), .inl (cI, 256, .inl (fun _ => 0))), ((u8 1), .inl (cI, 256, .inl (fun _ => 0))), ((u8 2), .inl (cI, 256, .inl (fun _ => 0))), (q9, .inl (cS, 4, .inr (.inr (.inr (.inr (va_up (fun _ => none) 0 (some q10))))))), (q10, .inr (1, [.int 0, .int 0, .ref (u11 0)])), ((u11 0), .inl (cJ, 40, .inr (.inl (fun _ => 0))))]) fx h [20] [0, 1, 2, 3, 4, 5, 6, 7, 8, 9, 10, 11, 12, 13, 14, 15, 16, 17, 18, 19] rfl rfl rfl (by decide) (q_runI fx h hl.1 [20] rfl rfl (iX1 l D cI cJ cZ cS tb q12 H.size) miX1_init k_157 ⟨rfl, rfl⟩ ⟨Nat.le_of_ble_eq_true rfl, Nat.le_of_ble_eq_true rfl⟩ rfl rfl (Nat.le_of_ble_eq_true rfl) dX4_init_72 ⟨Nat.le_of_ble_eq_true rfl, Nat.le_of_ble_eq_true rfl⟩) (fun u13 H locs h => ?_)
  have h : q_H D A s [(a_t, .inr (4, [.ref q1, .ref q3, .int 0, .ref q5, .ref q7, .ref q9, .null])), (q1, .inr (0, [.int 0, .int 0, .int 0, .ref (u2 0), .ref (u2 1), .ref (u2 2), .ref (u2 3)])), ((u2 0), .inl (cI, 8, .inl (fun _ => 0))), ((u2 1), .inl (cI, 8, .inl (fun _ => 0))), ((u2 2), .inl (cJ, 32, .inr (.inl (fillF 32 (-1) (fun _ => 0))))), ((u2 3), .inl (cI, 256, .inl (fillF 256 (-1) (fun _ => 0)))), (q3, .inr (0, [.int 0, .int 0, .int 0, .ref (u4 0), .ref (u4 1), .ref (u4 2), .ref (u4 3)])), ((u4 0), .inl (cI, 8, .inl (fun _ => 0))), ((u4 1), .inl (cI, 8, .inl (fun _ => 0))), ((u4 2), .inl (cJ, 32, .inr (.inl (fillF 32 (-1) (fun _ => 0))))), ((u4 3), .inl (cI, 256, .inl (fillF 256 (-1) (fun _ => 0)))), (q5, .inr (2, [.ref (u6 0), .int 0, .int 0, .int (-1), .int 0, .int 0])), ((u6 0), .inl (cI, 60, .inl (fun _ => 0))), (q7, .inr (3, [.ref (u8 0), .ref (u8 1), .ref (u8 2)])), ((u8 0), .inl (cI, 256, .inl (fun _ => 0))), ((u8 1), .inl (cI, 256, .inl (fun _ => 0))), ((u8 2), .inl (cI, 256, .inl (fun _ => 0))), (q9, .inl (cS, 4, .inr (.inr (.inr (.inr (va_up (fun _ => none) 0 (some q10))))))), (q10, .inr (1, [.int 0, .int 0, .ref (u11 0)])), ((u11 0), .inl (cJ, 40, .inr (.inl (fun _ => 0)))), (q12, .inr (1, [.int 0, .int 0, .ref (u13 0)])), ((u13 0), .inl (cJ, 40, .inr (.inl (fun _ => 0))))] H locs := h
  refine W.widen (k := 21) (n := 1549) (Nat.le_of_ble_eq_true rfl) (Nat.le_of_ble_eq_true rfl) ?_
  refine q_astS (ws' := [(a_t, .inr (4, [.ref q1, .ref q3, .int 0, .ref q5, .ref q7, .ref q9, .null])), (q1, .inr (0, [.int 0, .int 0, .int 0, .ref (u2 0), .ref (u2 1), .ref (u2 2), .ref (u2 3)])), ((u2 0), .inl (cI, 8, .inl (fun _ => 0))), ((u2 1), .inl (cI, 8, .inl (fun _ => 0))), ((u2 2), .inl (cJ, 32, .inr (.inl (fillF 32 (-1) (fun _ => 0))))), ((u2 3), .inl (cI, 256, .inl (fillF 256 (-1) (fun _ => 0)))), (q3, .inr (0, [.int 0, .int 0, .int 0, .ref (u4 0), .ref (u4 1), .ref (u4 2), .ref (u4 3)])), ((u4 0), .inl (cI, 8, .inl (fun _ => 0))), ((u4 1), .inl (cI, 8, .inl (fun _ => 0))), ((u4 2), .inl (cJ, 32, .inr (.inl (fillF 32 (-1) (fun _ => 0))))), ((u4 3), .inl (cI, 256, .inl (fillF 256 (-1) (fun _ => 0)))), (q5, .inr (2, [.ref (u6 0), .int 0, .int 0, .int (-1), .int 0, .int 0])), ((u6 0), .inl (cI, 60, .inl (fun _ => 0))), (q7, .inr (3, [.ref (u8 0), .ref (u8 1), .ref (u8 2)])), ((u8 0), .inl (cI, 256, .inl (fun _ => 0))), ((u8 1), .inl (cI, 256, .inl (fun _ => 0))), ((u8 2), .inl (cI, 256, .inl (fun _ => 0))), (q9, .inl (cS, 4, .inr (.inr (.inr (.inr (va_up (va_up (fun _ => none) 0 (some q10)) 1 (some q12))))))), (q10, .inr (1, [.int 0, .int 0, .ref (u11 0)])), ((u11 0), .inl (cJ, 40, .inr (.inl (fun _ => 0)))), (q12, .inr (1, [.int 0, .int 0, .ref (u13 0)])), ((u13 0), .inl (cJ, 40, .inr (.inl (fun _ => 0))))]) fx h 17 20 rfl rfl 1 (vinK (by decide)) (by decide) rfl dX4_init_75 (fun H locs h => ?_)
  refine lv_iinc (v := 2) (lv' := [(1, .int 2), (0, .ref a_t)]) hx hb dX4_init_76 hl (k := 0) rfl (by decide) (by decide) rfl (fun ls hl => ?_)
  refine lv_goto (tgt := 58) hx hb dX4_init_79 (by decide) ?_
  refine lv_iload_n hx hb dX4_init_58 rfl (lv_at hl 0 rfl) ?_
  refine lv_iconst (v := 4) hx hb dX4_init_59 (by decide) ?_
  refine lv_icmp_ge (tgt := 82) hx hb dX4_init_60 (by decide) (fun c9 => absurd c9 (by decide)) (fun _ => ?_)
  refine lv_aload_n hx hb dX4_init_63 rfl (lv_at hl 1 rfl) ?_
  refine q_get (v := .ref q9) fx inX4 h 0 rfl rfl 5 (by decide) k_179 rfl dX4_init_64 ?_
  refine lv_iload_n hx hb dX4_init_67 rfl (lv_at hl 0 rfl) ?_
  refine q_new (ci := 1) (fs := [.int 0, .int 0, .null]) fx h inX1 tyX1 tyX1_ok k_154 k_156 k_54 rfl dfX1 (Nat.le_of_ble_eq_true rfl) (Nat.le_of_ble_eq_true rfl) dX4_init_68 (fun q14 H h => ?_)
  have h : q_H D A s [(a_t, .inr (4, [.ref q1, .ref q3, .int 0, .ref q5, .ref q7, .ref q9, .null])), (q1, .inr (0, [.int 0, .int 0, .int 0, .ref (u2 0), .ref (u2 1), .ref (u2 2), .ref (u2 3)])), ((u2 0), .inl (cI, 8, .inl (fun _ => 0))), ((u2 1), .inl (cI, 8, .inl (fun _ => 0))), ((u2 2), .inl (cJ, 32, .inr (.inl (fillF 32 (-1) (fun _ => 0))))), ((u2 3), .inl (cI, 256, .inl (fillF 256 (-1) (fun _ => 0)))), (q3, .inr (0, [.int 0, .int 0, .int 0, .ref (u4 0), .ref (u4 1), .ref (u4 2), .ref (u4 3)])), ((u4 0), .inl (cI, 8, .inl (fun _ => 0))), ((u4 1), .inl (cI, 8, .inl (fun _ => 0))), ((u4 2), .inl (cJ, 32, .inr (.inl (fillF 32 (-1) (fun _ => 0))))), ((u4 3), .inl (cI, 256, .inl (fillF 256 (-1) (fun _ => 0)))), (q5, .inr (2, [.ref (u6 0), .int 0, .int 0, .int (-1), .int 0, .int 0])), ((u6 0), .inl (cI, 60, .inl (fun _ => 0))), (q7, .inr (3, [.ref (u8 0), .ref (u8 1), .ref (u8 2)])), ((u8 0), .inl (cI, 256, .inl (fun _ => 0))), ((u8 1), .inl (cI, 256, .inl (fun _ => 0))), ((u8 2), .inl (cI, 256, .inl (fun _ => 0))), (q9, .inl (cS, 4, .inr (.inr (.inr (.inr (va_up (va_up (fun _ => none) 0 (some q10)) 1 (some q12))))))), (q10, .inr (1, [.int 0, .int 0, .ref (u11 0)])), ((u11 0), .inl (cJ, 40, .inr (.inl (fun _ => 0)))), (q12, .inr (1, [.int 0, .int 0, .ref (u13 0)])), ((u13 0), .inl (cJ, 40, .inr (.inl (fun _ => 0)))), (q14, .inr (1, [.int 0, .int 0, .null]))] H locs := h
  refine W.widen (k := 22) (n := 1552) (Nat.le_of_ble_eq_true rfl) (Nat.le_of_ble_eq_true rfl) ?_
  refine lv_dup hx hb dX4_init_71 rfl ?_
  refine q_cn (rest := [.ref q14, .int 2, .ref q9]) (wr := [(a_t, .inr (4, [.ref q1, .ref q3, .int 0, .ref q5, .ref q7, .ref q9, .null])), (q1, .inr (0, [.int 0, .int 0, .int 0, .ref (u2 0), .ref (u2 1), .ref (u2 2), .ref (u2 3)])), ((u2 0), .inl (cI, 8, .inl (fun _ => 0))), ((u2 1), .inl (cI, 8, .inl (fun _ => 0))), ((u2 2), .inl (cJ, 32, .inr (.inl (fillF 32 (-1) (fun _ => 0))))), ((u2 3), .inl (cI, 256, .inl (fillF 256 (-1) (fun _ => 0)))), (q3, .inr (0, [.int 0, .int 0, .int 0, .ref (u4 0), .ref (u4 1), .ref (u4 2), .ref (u4 3)])), ((u4 0), .inl (cI, 8, .inl (fun _ => 0))), ((u4 1), .inl (cI, 8, .inl (fun _ => 0))), ((u4 2), .inl (cJ, 32, .inr (.inl (fillF 32 (-1) (fun _ => 0))))), ((u4 3), .inl (cI, 256, .inl (fillF 256 (-1) (fun _ => 0)))), (q5, .inr (2, [.ref (u6 0), .int 0, .int 0, .int (-1), .int 0, .int 0])), ((u6 0), .inl (cI, 60, .inl (fun _ => 0))), (q7, .inr (3, [.ref (u8 0), .ref (u8 1), .ref (u8 2)])), ((u8 0), .inl (cI, 256, .inl (fun _ => 0))), ((u8 1), .inl (cI, 256, .inl (fun _ => 0))), ((u8 2), .inl (cI, 256, .inl (fun _ => 0))), (q9, .inl (cS, 4, .inr (.inr (.inr (.inr (va_up (va_up (fun _ => none) 0 (some q10)) 1 (some q12))))))), (q10, .inr (1, [.int 0, .int 0, .ref (u11 0)])), ((u11 0), .inl (cJ, 40, .inr (.inl (fun _ => 0)))), (q12, .inr (1, [.int 0, .int 0, .ref (u13 0)])), ((u13 0), .inl (cJ, 40, .inr (.inl (fun _ => 0))))]) fx h [22] [0, 1, 2, 3, 4, 5, 6, 7, 8, 9, 10, 11, 12, 13, 14, 15, 16, 17, 18, 19, 20, 21] rfl rfl rfl (by decide) (q_runI fx h hl.1 [22] rfl rfl (iX1 l D cI cJ cZ cS tb q14 H.size) miX1_init k_157 ⟨rfl, rfl⟩ ⟨Nat.le_of_ble_eq_true rfl, Nat.le_of_ble_eq_true rfl⟩ rfl rfl (Nat.le_of_ble_eq_true rfl) dX4_init_72 ⟨Nat.le_of_ble_eq_true rfl, Nat.le_of_ble_eq_true rfl⟩) (fun u15 H locs h => ?_)
  have h : q_H D A s [(a_t, .inr (4, [.ref q1, .ref q3, .int 0, .ref q5, .ref q7, .ref q9, .null])), (q1, .inr (0, [.int 0, .int 0, .int 0, .ref (u2 0), .ref (u2 1), .ref (u2 2), .ref (u2 3)])), ((u2 0), .inl (cI, 8, .inl (fun _ => 0))), ((u2 1), .inl (cI, 8, .inl (fun _ => 0))), ((u2 2), .inl (cJ, 32, .inr (.inl (fillF 32 (-1) (fun _ => 0))))), ((u2 3), .inl (cI, 256, .inl (fillF 256 (-1) (fun _ => 0)))), (q3, .inr (0, [.int 0, .int 0, .int 0, .ref (u4 0), .ref (u4 1), .ref (u4 2), .ref (u4 3)])), ((u4 0), .inl (cI, 8, .inl (fun _ => 0))), ((u4 1), .inl (cI, 8, .inl (fun _ => 0))), ((u4 2), .inl (cJ, 32, .inr (.inl (fillF 32 (-1) (fun _ => 0))))), ((u4 3), .inl (cI, 256, .inl (fillF 256 (-1) (fun _ => 0)))), (q5, .inr (2, [.ref (u6 0), .int 0, .int 0, .int (-1), .int 0, .int 0])), ((u6 0), .inl (cI, 60, .inl (fun _ => 0))), (q7, .inr (3, [.ref (u8 0), .ref (u8 1), .ref (u8 2)])), ((u8 0), .inl (cI, 256, .inl (fun _ => 0))), ((u8 1), .inl (cI, 256, .inl (fun _ => 0))), ((u8 2), .inl (cI, 256, .inl (fun _ => 0))), (q9, .inl (cS, 4, .inr (.inr (.inr (.inr (va_up (va_up (fun _ => none) 0 (some q10)) 1 (some q12))))))), (q10, .inr (1, [.int 0, .int 0, .ref (u11 0)])), ((u11 0), .inl (cJ, 40, .inr (.inl (fun _ => 0)))), (q12, .inr (1, [.int 0, .int 0, .ref (u13 0)])), ((u13 0), .inl (cJ, 40, .inr (.inl (fun _ => 0)))), (q14, .inr (1, [.int 0, .int 0, .ref (u15 0)])), ((u15 0), .inl (cJ, 40, .inr (.inl (fun _ => 0))))] H locs := h
  refine W.widen (k := 23) (n := 1592) (Nat.le_of_ble_eq_true rfl) (Nat.le_of_ble_eq_true rfl) ?_
  refine q_astS (ws' := [(a_t, .inr (4, [.ref q1, .ref q3, .int 0, .ref q5, .ref q7, .ref q9, .null])), (q1, .inr (0, [.int 0, .int 0, .int 0, .ref (u2 0), .ref (u2 1), .ref (u2 2), .ref (u2 3)])), ((u2 0), .inl (cI, 8, .inl (fun _ => 0))), ((u2 1), .inl (cI, 8, .inl (fun _ => 0))), ((u2 2), .inl (cJ, 32, .inr (.inl (fillF 32 (-1) (fun _ => 0))))), ((u2 3), .inl (cI, 256, .inl (fillF 256 (-1) (fun _ => 0)))), (q3, .inr (0, [.int 0, .int 0, .int 0, .ref (u4 0), .ref (u4 1), .ref (u4 2), .ref (u4 3)])), ((u4 0), .inl (cI, 8, .inl (fun _ => 0))), ((u4 1), .inl (cI, 8, .inl (fun _ => 0))), ((u4 2), .inl (cJ, 32, .inr (.inl (fillF 32 (-1) (fun _ => 0))))), ((u4 3), .inl (cI, 256, .inl (fillF 256 (-1) (fun _ => 0)))), (q5, .inr (2, [.ref (u6 0), .int 0, .int 0, .int (-1), .int 0, .int 0])), ((u6 0), .inl (cI, 60, .inl (fun _ => 0))), (q7, .inr (3, [.ref (u8 0), .ref (u8 1), .ref (u8 2)])), ((u8 0), .inl (cI, 256, .inl (fun _ => 0))), ((u8 1), .inl (cI, 256, .inl (fun _ => 0))), ((u8 2), .inl (cI, 256, .inl (fun _ => 0))), (q9, .inl (cS, 4, .inr (.inr (.inr (.inr (va_up (va_up (va_up (fun _ => none) 0 (some q10)) 1 (some q12)) 2 (some q14))))))), (q10, .inr (1, [.int 0, .int 0, .ref (u11 0)])), ((u11 0), .inl (cJ, 40, .inr (.inl (fun _ => 0)))), (q12, .inr (1, [.int 0, .int 0, .ref (u13 0)])), ((u13 0), .inl (cJ, 40, .inr (.inl (fun _ => 0)))), (q14, .inr (1, [.int 0, .int 0, .ref (u15 0)])), ((u15 0), .inl (cJ, 40, .inr (.inl (fun _ => 0))))]) fx h 17 22 rfl rfl 2 (vinK (by decide)) (by decide) rfl dX4_init_75 (fun H locs h => ?_)
  refine lv_iinc (v := 3) (lv' := [(1, .int 3), (0, .ref a_t)]) hx hb dX4_init_76 hl (k := 0) rfl (by decide) (by decide) rfl (fun ls hl => ?_)
  refine lv_goto (tgt := 58) hx hb dX4_init_79 (by decide) ?_
  refine lv_iload_n hx hb dX4_init_58 rfl (lv_at hl 0 rfl) ?_
  refine lv_iconst (v := 4) hx hb dX4_init_59 (by decide) ?_
  refine lv_icmp_ge (tgt := 82) hx hb dX4_init_60 (by decide) (fun c9 => absurd c9 (by decide)) (fun _ => ?_)
  refine lv_aload_n hx hb dX4_init_63 rfl (lv_at hl 1 rfl) ?_
  refine q_get (v := .ref q9) fx inX4 h 0 rfl rfl 5 (by decide) k_179 rfl dX4_init_64 ?_
  refine lv_iload_n hx hb dX4_init_67 rfl (lv_at hl 0 rfl) ?_
  refine q_new (ci := 1) (fs := [.int 0, .int 0, .null]) fx h inX1 tyX1 tyX1_ok k_154 k_156 k_54 rfl dfX1 (Nat.le_of_ble_eq_true rfl) (Nat.le_of_ble_eq_true rfl) dX4_init_68 (fun q16 H h => ?_)
  have h : q_H D A s [(a_t, .inr (4, [.ref q1, .ref q3, .int 0, .ref q5, .ref q7, .ref q9, .null])), (q1, .inr (0, [.int 0, .int 0, .int 0, .ref (u2 0), .ref (u2 1), .ref (u2 2), .ref (u2 3)])), ((u2 0), .inl (cI, 8, .inl (fun _ => 0))), ((u2 1), .inl (cI, 8, .inl (fun _ => 0))), ((u2 2), .inl (cJ, 32, .inr (.inl (fillF 32 (-1) (fun _ => 0))))), ((u2 3), .inl (cI, 256, .inl (fillF 256 (-1) (fun _ => 0)))), (q3, .inr (0, [.int 0, .int 0, .int 0, .ref (u4 0), .ref (u4 1), .ref (u4 2), .ref (u4 3)])), ((u4 0), .inl (cI, 8, .inl (fun _ => 0))), ((u4 1), .inl (cI, 8, .inl (fun _ => 0))), ((u4 2), .inl (cJ, 32, .inr (.inl (fillF 32 (-1) (fun _ => 0))))), ((u4 3), .inl (cI, 256, .inl (fillF 256 (-1) (fun _ => 0)))), (q5, .inr (2, [.ref (u6 0), .int 0, .int 0, .int (-1), .int 0, .int 0])), ((u6 0), .inl (cI, 60, .inl (fun _ => 0))), (q7, .inr (3, [.ref (u8 0), .ref (u8 1), .ref (u8 2)])), ((u8 0), .inl (cI, 256, .inl (fun _ => 0))), ((u8 1), .inl (cI, 256, .inl (fun _ => 0))), ((u8 2), .inl (cI, 256, .inl (fun _ => 0))), (q9, .inl (cS, 4, .inr (.inr (.inr (.inr (va_up (va_up (va_up (fun _ => none) 0 (some q10)) 1 (some q12)) 2 (some q14))))))), (q10, .inr (1, [.int 0, .int 0, .ref (u11 0)])), ((u11 0), .inl (cJ, 40, .inr (.inl (fun _ => 0)))), (q12, .inr (1, [.int 0, .int 0, .ref (u13 0)])), ((u13 0), .inl (cJ, 40, .inr (.inl (fun _ => 0)))), (q14, .inr (1, [.int 0, .int 0, .ref (u15 0)])), ((u15 0), .inl (cJ, 40, .inr (.inl (fun _ => 0)))), (q16, .inr (1, [.int 0, .int 0, .null]))] H locs := h
  refine W.widen (k := 24) (n := 1595) (Nat.le_of_ble_eq_true rfl) (Nat.le_of_ble_eq_true rfl) ?_
  refine lv_dup hx hb dX4_init_71 rfl ?_
  refine q_cn (rest := [.ref q16, .int 3, .ref q9]) (wr := [(a_t, .inr (4, [.ref q1, .ref q3, .int 0, .ref q5, .ref q7, .ref q9, .null])), (q1, .inr (0, [.int 0, .int 0, .int 0, .ref (u2 0), .ref (u2 1), .ref (u2 2), .ref (u2 3)])), ((u2 0), .inl (cI, 8, .inl (fun _ => 0))), ((u2 1), .inl (cI, 8, .inl (fun _ => 0))), ((u2 2), .inl (cJ, 32, .inr (.inl (fillF 32 (-1) (fun _ => 0))))), ((u2 3), .inl (cI, 256, .inl (fillF 256 (-1) (fun _ => 0)))), (q3, .inr (0, [.int 0, .int 0, .int 0, .ref (u4 0), .ref (u4 1), .ref (u4 2), .ref (u4 3)])), ((u4 0), .inl (cI, 8, .inl (fun _ => 0))), ((u4 1), .inl (cI, 8, .inl (fun _ => 0))), ((u4 2), .inl (cJ, 32, .inr (.inl (fillF 32 (-1) (fun _ => 0))))), ((u4 3), .inl (cI, 256, .inl (fillF 256 (-1) (fun _ => 0)))), (q5, .inr (2, [.ref (u6 0), .int 0, .int 0, .int (-1), .int 0, .int 0])), ((u6 0), .inl (cI, 60, .inl (fun _ => 0))), (q7, .inr (3, [.ref (u8 0), .ref (u8 1), .ref (u8 2)])), ((u8 0), .inl (cI, 256, .inl (fun _ => 0))), ((u8 1), .inl (cI, 256, .inl (fun _ => 0))), ((u8 2), .inl (cI, 256, .inl (fun _ => 0))), (q9, .inl (cS, 4, .inr (.inr (.inr (.inr (va_up (va_up (va_up (fun _ => none) 0 (some q10)) 1 (some q12)) 2 (some q14))))))), (q10, .inr (1, [.int 0, .int 0, .ref (u11 0)])), ((u11 0), .inl (cJ, 40, .inr (.inl (fun _ => 0)))), (q12, .inr (1, [.int 0, .int 0, .ref (u13 0)])), ((u13 0), .inl (cJ, 40, .inr (.inl (fun _ => 0)))), (q14, .inr (1, [.int 0, .int 0, .ref (u15 0)])), ((u15 0), .inl (cJ, 40, .inr (.inl (fun _ => 0))))]) fx h [24] [0, 1, 2, 3, 4, 5, 6, 7, 8, 9, 10, 11, 12, 13, 14, 15, 16, 17, 18, 19, 20, 21, 22, 23] rfl rfl rfl (by decide) (q_runI fx h hl.1 [24] rfl rfl (iX1 l D cI cJ cZ cS tb q16 H.size) miX1_init k_157 ⟨rfl, rfl⟩ ⟨Nat.le_of_ble_eq_true rfl, Nat.le_of_ble_eq_true rfl⟩ rfl rfl (Nat.le_of_ble_eq_true rfl) dX4_init_72 ⟨Nat.le_of_ble_eq_true rfl, Nat.le_of_ble_eq_true rfl⟩) (fun u17 H locs h => ?_)
  have h : q_H D A s [(a_t, .inr (4, [.ref q1, .ref q3, .int 0, .ref q5, .ref q7, .ref q9, .null])), (q1, .inr (0, [.int 0, .int 0, .int 0, .ref (u2 0), .ref (u2 1), .ref (u2 2), .ref (u2 3)])), ((u2 0), .inl (cI, 8, .inl (fun _ => 0))), ((u2 1), .inl (cI, 8, .inl (fun _ => 0))), ((u2 2), .inl (cJ, 32, .inr (.inl (fillF 32 (-1) (fun _ => 0))))), ((u2 3), .inl (cI, 256, .inl (fillF 256 (-1) (fun _ => 0)))), (q3, .inr (0, [.int 0, .int 0, .int 0, .ref (u4 0), .ref (u4 1), .ref (u4 2), .ref (u4 3)])), ((u4 0), .inl (cI, 8, .inl (fun _ => 0))), ((u4 1), .inl (cI, 8, .inl (fun _ => 0))), ((u4 2), .inl (cJ, 32, .inr (.inl (fillF 32 (-1) (fun _ => 0))))), ((u4 3), .inl (cI, 256, .inl (fillF 256 (-1) (fun _ => 0)))), (q5, .inr (2, [.ref (u6 0), .int 0, .int 0, .int (-1), .int 0, .int 0])), ((u6 0), .inl (cI, 60, .inl (fun _ => 0))), (q7, .inr (3, [.ref (u8 0), .ref (u8 1), .ref (u8 2)])), ((u8 0), .inl (cI, 256, .inl (fun _ => 0))), ((u8 1), .inl (cI, 256, .inl (fun _ => 0))), ((u8 2), .inl (cI, 256, .inl (fun _ => 0))), (q9, .inl (cS, 4, .inr (.inr (.inr (.inr (va_up (va_up (va_up (fun _ => none) 0 (some q10)) 1 (some q12)) 2 (some q14))))))), (q10, .inr (1, [.int 0, .int 0, .ref (u11 0)])), ((u11 0), .inl (cJ, 40, .inr (.inl (fun _ => 0)))), (q12, .inr (1, [.int 0, .int 0, .ref (u13 0)])), ((u13 0), .inl (cJ, 40, .inr (.inl (fun _ => 0)))), (q14, .inr (1, [.int 0, .int 0, .ref (u15 0)])), ((u15 0), .inl (cJ, 40, .inr (.inl (fun _ => 0)))), (q16, .inr (1, [.int 0, .int 0, .ref (u17 0)])), ((u17 0), .inl (cJ, 40, .inr (.inl (fun _ => 0))))] H locs := h
  refine W.widen (k := 25) (n := 1635) (Nat.le_of_ble_eq_true rfl) (Nat.le_of_ble_eq_true rfl) ?_
  refine q_astS (ws' := [(a_t, .inr (4, [.ref q1, .ref q3, .int 0, .ref q5, .ref q7, .ref q9, .null])), (q1, .inr (0, [.int 0, .int 0, .int 0, .ref (u2 0), .ref (u2 1), .ref (u2 2), .ref (u2 3)])), ((u2 0), .inl (cI, 8, .inl (fun _ => 0))), ((u2 1), .inl (cI, 8, .inl (fun _ => 0))), ((u2 2), .inl (cJ, 32, .inr (.inl (fillF 32 (-1) (fun _ => 0))))), ((u2 3), .inl (cI, 256, .inl (fillF 256 (-1) (fun _ => 0)))), (q3, .inr (0, [.int 0, .int 0, .int 0, .ref (u4 0), .ref (u4 1), .ref (u4 2), .ref (u4 3)])), ((u4 0), .inl (cI, 8, .inl (fun _ => 0))), ((u4 1), .inl (cI, 8, .inl (fun _ => 0))), ((u4 2), .inl (cJ, 32, .inr (.inl (fillF 32 (-1) (fun _ => 0))))), ((u4 3), .inl (cI, 256, .inl (fillF 256 (-1) (fun _ => 0)))), (q5, .inr (2, [.ref (u6 0), .int 0, .int 0, .int (-1), .int 0, .int 0])), ((u6 0), .inl (cI, 60, .inl (fun _ => 0))), (q7, .inr (3, [.ref (u8 0), .ref (u8 1), .ref (u8 2)])), ((u8 0), .inl (cI, 256, .inl (fun _ => 0))), ((u8 1), .inl (cI, 256, .inl (fun _ => 0))), ((u8 2), .inl (cI, 256, .inl (fun _ => 0))), (q9, .inl (cS, 4, .inr (.inr (.inr (.inr (va_up (va_up (va_up (va_up (fun _ => none) 0 (some q10)) 1 (some q12)) 2 (some q14)) 3 (some q16))))))), (q10, .inr (1, [.int 0, .int 0, .ref (u11 0)])), ((u11 0), .inl (cJ, 40, .inr (.inl (fun _ => 0)))), (q12, .inr (1, [.int 0, .int 0, .ref (u13 0)])), ((u13 0), .inl (cJ, 40, .inr (.inl (fun _ => 0)))), (q14, .inr (1, [.int 0, .int 0, .ref (u15 0)])), ((u15 0), .inl (cJ, 40, .inr (.inl (fun _ => 0)))), (q16, .inr (1, [.int 0, .int 0, .ref (u17 0)])), ((u17 0), .inl (cJ, 40, .inr (.inl (fun _ => 0))))]) fx h 17 24 rfl rfl 3 (vinK (by decide)) (by decide) rfl dX4_init_75 (fun H locs h => ?_)
  refine lv_iinc (v := 4) (lv' := [(1, .int 4), (0, .ref a_t)]) hx hb dX4_init_76 hl (k := 0) rfl (by decide) (by decide) rfl (fun ls hl => ?_)
  refine lv_goto (tgt := 58) hx hb dX4_init_79 (by decide) ?_
  refine lv_iload_n hx hb dX4_init_58 rfl (lv_at hl 0 rfl) ?_
  refine lv_iconst (v := 4) hx hb dX4_init_59 (by decide) ?_
  refine lv_icmp_ge (tgt := 82) hx hb dX4_init_60 (by decide) (fun _ => ?_) (fun c9 => absurd (by decide) c9)
  refine lv_aload_n hx hb dX4_init_82 rfl (lv_at hl 1 rfl) ?_
  refine lv_bipush (v := 7) hx hb dX4_init_83 (by decide) ?_
  refine q_newI (N := 7) fx h k_109 (by decide) (by decide) (Nat.le_of_ble_eq_true rfl) (Nat.le_of_ble_eq_true rfl) (Nat.le_of_ble_eq_true rfl) dX4_init_85 (fun q18 H h => ?_)
  have h : q_H D A s [(a_t, .inr (4, [.ref q1, .ref q3, .int 0, .ref q5, .ref q7, .ref q9, .null])), (q1, .inr (0, [.int 0, .int 0, .int 0, .ref (u2 0), .ref (u2 1), .ref (u2 2), .ref (u2 3)])), ((u2 0), .inl (cI, 8, .inl (fun _ => 0))), ((u2 1), .inl (cI, 8, .inl (fun _ => 0))), ((u2 2), .inl (cJ, 32, .inr (.inl (fillF 32 (-1) (fun _ => 0))))), ((u2 3), .inl (cI, 256, .inl (fillF 256 (-1) (fun _ => 0)))), (q3, .inr (0, [.int 0, .int 0, .int 0, .ref (u4 0), .ref (u4 1), .ref (u4 2), .ref (u4 3)])), ((u4 0), .inl (cI, 8, .inl (fun _ => 0))), ((u4 1), .inl (cI, 8, .inl (fun _ => 0))), ((u4 2), .inl (cJ, 32, .inr (.inl (fillF 32 (-1) (fun _ => 0))))), ((u4 3), .inl (cI, 256, .inl (fillF 256 (-1) (fun _ => 0)))), (q5, .inr (2, [.ref (u6 0), .int 0, .int 0, .int (-1), .int 0, .int 0])), ((u6 0), .inl (cI, 60, .inl (fun _ => 0))), (q7, .inr (3, [.ref (u8 0), .ref (u8 1), .ref (u8 2)])), ((u8 0), .inl (cI, 256, .inl (fun _ => 0))), ((u8 1), .inl (cI, 256, .inl (fun _ => 0))), ((u8 2), .inl (cI, 256, .inl (fun _ => 0))), (q9, .inl (cS, 4, .inr (.inr (.inr (.inr (va_up (va_up (va_up (va_up (fun _ => none) 0 (some q10)) 1 (some q12)) 2 (some q14)) 3 (some q16))))))), (q10, .inr (1, [.int 0, .int 0, .ref (u11 0)])), ((u11 0), .inl (cJ, 40, .inr (.inl (fun _ => 0)))), (q12, .inr (1, [.int 0, .int 0, .ref (u13 0)])), ((u13 0), .inl (cJ, 40, .inr (.inl (fun _ => 0)))), (q14, .inr (1, [.int 0, .int 0, .ref (u15 0)])), ((u15 0), .inl (cJ, 40, .inr (.inl (fun _ => 0)))), (q16, .inr (1, [.int 0, .int 0, .ref (u17 0)])), ((u17 0), .inl (cJ, 40, .inr (.inl (fun _ => 0)))), (q18, .inl (cI, 7, .inl (fun _ => 0)))] H locs := h
  refine W.widen (k := 26) (n := 1642) (Nat.le_of_ble_eq_true rfl) (Nat.le_of_ble_eq_true rfl) ?_
  refine q_putF (v := .ref q18) (ws' := [(a_t, .inr (4, [.ref q1, .ref q3, .int 0, .ref q5, .ref q7, .ref q9, .ref q18])), (q1, .inr (0, [.int 0, .int 0, .int 0, .ref (u2 0), .ref (u2 1), .ref (u2 2), .ref (u2 3)])), ((u2 0), .inl (cI, 8, .inl (fun _ => 0))), ((u2 1), .inl (cI, 8, .inl (fun _ => 0))), ((u2 2), .inl (cJ, 32, .inr (.inl (fillF 32 (-1) (fun _ => 0))))), ((u2 3), .inl (cI, 256, .inl (fillF 256 (-1) (fun _ => 0)))), (q3, .inr (0, [.int 0, .int 0, .int 0, .ref (u4 0), .ref (u4 1), .ref (u4 2), .ref (u4 3)])), ((u4 0), .inl (cI, 8, .inl (fun _ => 0))), ((u4 1), .inl (cI, 8, .inl (fun _ => 0))), ((u4 2), .inl (cJ, 32, .inr (.inl (fillF 32 (-1) (fun _ => 0))))), ((u4 3), .inl (cI, 256, .inl (fillF 256 (-1) (fun _ => 0)))), (q5, .inr (2, [.ref (u6 0), .int 0, .int 0, .int (-1), .int 0, .int 0])), ((u6 0), .inl (cI, 60, .inl (fun _ => 0))), (q7, .inr (3, [.ref (u8 0), .ref (u8 1), .ref (u8 2)])), ((u8 0), .inl (cI, 256, .inl (fun _ => 0))), ((u8 1), .inl (cI, 256, .inl (fun _ => 0))), ((u8 2), .inl (cI, 256, .inl (fun _ => 0))), (q9, .inl (cS, 4, .inr (.inr (.inr (.inr (va_up (va_up (va_up (va_up (fun _ => none) 0 (some q10)) 1 (some q12)) 2 (some q14)) 3 (some q16))))))), (q10, .inr (1, [.int 0, .int 0, .ref (u11 0)])), ((u11 0), .inl (cJ, 40, .inr (.inl (fun _ => 0)))), (q12, .inr (1, [.int 0, .int 0, .ref (u13 0)])), ((u13 0), .inl (cJ, 40, .inr (.inl (fun _ => 0)))), (q14, .inr (1, [.int 0, .int 0, .ref (u15 0)])), ((u15 0), .inl (cJ, 40, .inr (.inl (fun _ => 0)))), (q16, .inr (1, [.int 0, .int 0, .ref (u17 0)])), ((u17 0), .inl (cJ, 40, .inr (.inl (fun _ => 0)))), (q18, .inl (cI, 7, .inl (fun _ => 0)))]) fx hin inX4 tyX4 tyX4_ok nmX4 h 0 rfl rfl 6 (by decide) k_180 rfl rfl rfl rfl (Nat.le_of_ble_eq_true rfl) rfl dX4_init_87 (fun H locs h => ?_)
  rw [q_shup] at h
  have h := q_perm (ws' := nX4 cI cJ cZ cS a_t (fun k => ([q1, (u2 0), (u2 1), (u2 2), (u2 3), q3, (u4 0), (u4 1), (u4 2), (u4 3), q5, (u6 0), q7, (u8 0), (u8 1), (u8 2), q9, q10, (u11 0), q12, (u13 0), q14, (u15 0), q16, (u17 0), q18] : List Nat).getD k 0)) h [0, 1, 2, 3, 4, 5, 6, 7, 8, 9, 10, 11, 12, 13, 14, 15, 16, 17, 18, 19, 20, 21, 22, 23, 24, 25, 26] (by decide) rfl
  exact q_retn (fun u => nX4 cI cJ cZ cS a_t u) (fun k => ([q1, (u2 0), (u2 1), (u2 2), (u2 3), q3, (u4 0), (u4 1), (u4 2), (u4 3), q5, (u6 0), q7, (u8 0), (u8 1), (u8 2), q9, q10, (u11 0), q12, (u13 0), q14, (u15 0), q16, (u17 0), q18] : List Nat).getD k 0) fx h dX4_init_90
abbrev nX5 (cI cJ cZ cS : ClassId) (a_t : Nat) (u : Nat → Nat) : va_W := [(a_t, .inr (5, [.ref (u 0), .ref (u 1), .ref (u 2), .int 0, .ref (u 3), .ref (u 4), .ref (u 5), .int 0, .int 0, .int 0, .int 0, .int 0, .ref (u 6), .ref (u 7), .ref (u 8), .ref (u 9), .ref (u 10), .ref (u 11)])), ((u 0), .inl (cI, 538, .inl (fun _ => 0))), ((u 1), .inl (cI, 538, .inl (fun _ => 0))), ((u 2), .inl (cI, 7, .inl (fun _ => 0))), ((u 3), .inl (cZ, 64, .inl (fun _ => 0))), ((u 4), .inl (cI, 60, .inl (fun _ => 0))), ((u 5), .inl (cI, 64, .inl (fun _ => 0))), ((u 6), .inl (cI, 256, .inl (fun _ => 0))), ((u 7), .inl (cI, 256, .inl (fun _ => 0))), ((u 8), .inl (cI, 4, .inl (fun _ => 0))), ((u 9), .inl (cI, 4, .inl (fun _ => 0))), ((u 10), .inl (cJ, 160, .inr (.inl (fun _ => 0)))), ((u 11), .inl (cJ, 40, .inr (.inl (fun _ => 0))))]
abbrev rX5_init : Room := { frames := 1, cells := 12, slots := 1991, locals := 40 }
theorem dfX5 : ∀ j, j < 18 → defaultValue (tyX5 j) = vp_V [.null, .null, .null, .int 0, .null, .null, .null, .int 0, .int 0, .int 0, .int 0, .int 0, .null, .null, .null, .null, .null, .null] j := by
  intro j hj
  match j, hj with
  | 0, _ => rfl
  | 1, _ => rfl
  | 2, _ => rfl
  | 3, _ => rfl
  | 4, _ => rfl
  | 5, _ => rfl
  | 6, _ => rfl
  | 7, _ => rfl
  | 8, _ => rfl
  | 9, _ => rfl
  | 10, _ => rfl
  | 11, _ => rfl
  | 12, _ => rfl
  | 13, _ => rfl
  | 14, _ => rfl
  | 15, _ => rfl
  | 16, _ => rfl
  | 17, _ => rfl
  | n + 18, h => exact absurd h (by omega)
set_option maxRecDepth 100000 in
set_option maxHeartbeats 4000000 in
theorem iX5 (l : Launch) (D : va_G) (cI cJ cZ cS : ClassId) (tb : Nat) (a_t sz : Nat) : Met l yX5_init (Cond.code yX5_init cX5_init 1 none :: wA) rX5_init (q_Pre D cI cJ cZ cS tb [.ref a_t] sz [(a_t, .inr (5, [.null, .null, .null, .int 0, .null, .null, .null, .int 0, .int 0, .int 0, .int 0, .int 0, .null, .null, .null, .null, .null, .null]))]) (q_Rn D (va_A [(a_t, .inr (5, [.null, .null, .null, .int 0, .null, .null, .null, .int 0, .int 0, .int 0, .int 0, .int 0, .null, .null, .null, .null, .null, .null]))] sz) (fun u => nX5 cI cJ cZ cS a_t u)) 12 1991 (va_A [(a_t, .inr (5, [.null, .null, .null, .int 0, .null, .null, .null, .int 0, .int 0, .int 0, .int 0, .int 0, .null, .null, .null, .null, .null, .null]))] sz) := by
  refine q_enter (Qf := fun A => q_Rn D A (fun u => nX5 cI cJ cZ cS a_t u)) (by decide) rfl (Nat.le_of_ble_eq_true rfl) ?_
  intro p e s m below meth c A ls fx hname h hl
  have hin : meth.name = "<init>" := hname
  have hx := fx.1
  have hb := fx.2.1
  have hl : lv_has ls 1 [(0, .ref a_t)] := hl
  generalize h9 : s.heap = H at h ⊢
  clear h9
  generalize h9 : ([] : List Loc) = locs at h ⊢
  clear h9
  refine lv_aload_n hx hb dX5_init_0 rfl (lv_at hl 0 rfl) ?_
  refine q_oinit fx hl.1 k_635 k_65 k_66 dX5_init_1 (Nat.le_of_ble_eq_true rfl) (Nat.le_of_ble_eq_true rfl) ?_
  refine lv_aload_n hx hb dX5_init_4 rfl (lv_at hl 0 rfl) ?_
  refine lv_sipush (v := 538) hx hb dX5_init_5 (by decide) ?_
  refine q_newI (N := 538) fx h k_109 (by decide) (by decide) (Nat.le_of_ble_eq_true rfl) (Nat.le_of_ble_eq_true rfl) (Nat.le_of_ble_eq_true rfl) dX5_init_8 (fun q1 H h => ?_)
  have h : q_H D A s [(a_t, .inr (5, [.null, .null, .null, .int 0, .null, .null, .null, .int 0, .int 0, .int 0, .int 0, .int 0, .null, .null, .null, .null, .null, .null])), (q1, .inl (cI, 538, .inl (fun _ => 0)))] H locs := h
  refine W.widen (k := 1) (n := 538) (Nat.le_of_ble_eq_true rfl) (Nat.le_of_ble_eq_true rfl) ?_
  refine q_putF (v := .ref q1) (ws' := [(a_t, .inr (5, [.ref q1, .null, .null, .int 0, .null, .null, .null, .int 0, .int 0, .int 0, .int 0, .int 0, .null, .null, .null, .null, .null, .null])), (q1, .inl (cI, 538, .inl (fun _ => 0)))]) fx hin inX5 tyX5 tyX5_ok nmX5 h 0 rfl rfl 0 (by decide) k_636 rfl rfl rfl rfl (Nat.le_of_ble_eq_true rfl) rfl dX5_init_10 (fun H locs h => ?_)
  refine lv_aload_n hx hb dX5_init_13 rfl (lv_at hl 0 rfl) ?_
  refine lv_sipush (v := 538) hx hb dX5_init_14 (by decide) ?_
  refine q_newI (N := 538) fx h k_109 (by decide) (by decide) (Nat.le_of_ble_eq_true rfl) (Nat.le_of_ble_eq_true rfl) (Nat.le_of_ble_eq_true rfl) dX5_init_17 (fun q2 H h => ?_)
  have h : q_H D A s [(a_t, .inr (5, [.ref q1, .null, .null, .int 0, .null, .null, .null, .int 0, .int 0, .int 0, .int 0, .int 0, .null, .null, .null, .null, .null, .null])), (q1, .inl (cI, 538, .inl (fun _ => 0))), (q2, .inl (cI, 538, .inl (fun _ => 0)))] H locs := h
  refine W.widen (k := 2) (n := 1076) (Nat.le_of_ble_eq_true rfl) (Nat.le_of_ble_eq_true rfl) ?_
  refine q_putF (v := .ref q2) (ws' := [(a_t, .inr (5, [.ref q1, .ref q2, .null, .int 0, .null, .null, .null, .int 0, .int 0, .int 0, .int 0, .int 0, .null, .null, .null, .null, .null, .null])), (q1, .inl (cI, 538, .inl (fun _ => 0))), (q2, .inl (cI, 538, .inl (fun _ => 0)))]) fx hin inX5 tyX5 tyX5_ok nmX5 h 0 rfl rfl 1 (by decide) k_637 rfl rfl rfl rfl (Nat.le_of_ble_eq_true rfl) rfl dX5_init_19 (fun H locs h => ?_)
  refine lv_aload_n hx hb dX5_init_22 rfl (lv_at hl 0 rfl) ?_
  refine lv_bipush (v := 7) hx hb dX5_init_23 (by decide) ?_
  refine q_newI (N := 7) fx h k_109 (by decide) (by decide) (Nat.le_of_ble_eq_true rfl) (Nat.le_of_ble_eq_true rfl) (Nat.le_of_ble_eq_true rfl) dX5_init_25 (fun q3 H h => ?_)
  have h : q_H D A s [(a_t, .inr (5, [.ref q1, .ref q2, .null, .int 0, .null, .null, .null, .int 0, .int 0, .int 0, .int 0, .int 0, .null, .null, .null, .null, .null, .null])), (q1, .inl (cI, 538, .inl (fun _ => 0))), (q2, .inl (cI, 538, .inl (fun _ => 0))), (q3, .inl (cI, 7, .inl (fun _ => 0)))] H locs := h
  refine W.widen (k := 3) (n := 1083) (Nat.le_of_ble_eq_true rfl) (Nat.le_of_ble_eq_true rfl) ?_
  refine q_putF (v := .ref q3) (ws' := [(a_t, .inr (5, [.ref q1, .ref q2, .ref q3, .int 0, .null, .null, .null, .int 0, .int 0, .int 0, .int 0, .int 0, .null, .null, .null, .null, .null, .null])), (q1, .inl (cI, 538, .inl (fun _ => 0))), (q2, .inl (cI, 538, .inl (fun _ => 0))), (q3, .inl (cI, 7, .inl (fun _ => 0)))]) fx hin inX5 tyX5 tyX5_ok nmX5 h 0 rfl rfl 2 (by decide) k_638 rfl rfl rfl rfl (Nat.le_of_ble_eq_true rfl) rfl dX5_init_27 (fun H locs h => ?_)
  refine lv_aload_n hx hb dX5_init_30 rfl (lv_at hl 0 rfl) ?_
  refine lv_bipush (v := 64) hx hb dX5_init_31 (by decide) ?_
  refine q_newZ (N := 64) fx h k_691 (by decide) (by decide) (Nat.le_of_ble_eq_true rfl) (Nat.le_of_ble_eq_true rfl) (Nat.le_of_ble_eq_true rfl) dX5_init_33 (fun q4 H h => ?_)
  have h : q_H D A s [(a_t, .inr (5, [.ref q1, .ref q2, .ref q3, .int 0, .null, .null, .null, .int 0, .int 0, .int 0, .int 0, .int 0, .null, .null, .null, .null, .null, .null])), (q1, .inl (cI, 538, .inl (fun _ => 0))), (q2, .inl (cI, 538, .inl (fun _ => 0))), (q3, .inl (cI, 7, .inl (fun _ => 0))), (q4, .inl (cZ, 64, .inl (fun _ => 0)))] H locs := h
  refine W.widen (k := 4) (n := 1147) (Nat.le_of_ble_eq_true rfl) (Nat.le_of_ble_eq_true rfl) ?_
  refine q_putF (v := .ref q4) (ws' := [(a_t, .inr (5, [.ref q1, .ref q2, .ref q3, .int 0, .ref q4, .null, .null, .int 0, .int 0, .int 0, .int 0, .int 0, .null, .null, .null, .null, .null, .null])), (q1, .inl (cI, 538, .inl (fun _ => 0))), (q2, .inl (cI, 538, .inl (fun _ => 0))), (q3, .inl (cI, 7, .inl (fun _ => 0))), (q4, .inl (cZ, 64, .inl (fun _ => 0)))]) fx hin inX5 tyX5 tyX5_ok nmX5 h 0 rfl rfl 4 (by decide) k_640 rfl rfl rfl rfl (Nat.le_of_ble_eq_true rfl) rfl dX5_init_35 (fun H locs h => ?_)
  refine lv_aload_n hx hb dX5_init_38 rfl (lv_at hl 0 rfl) ?_
  refine lv_bipush (v := 60) hx hb dX5_init_39 (by decide) ?_
  refine q_newI (N := 60) fx h k_109 (by decide) (by decide) (Nat.le_of_ble_eq_true rfl) (Nat.le_of_ble_eq_true rfl) (Nat.le_of_ble_eq_true rfl) dX5_init_41 (fun q5 H h => ?_)
  have h : q_H D A s [(a_t, .inr (5, [.ref q1, .ref q2, .ref q3, .int 0, .ref q4, .null, .null, .int 0, .int 0, .int 0, .int 0, .int 0, .null, .null, .null, .null, .null, .null])), (q1, .inl (cI, 538, .inl (fun _ => 0))), (q2, .inl (cI, 538, .inl (fun _ => 0))), (q3, .inl (cI, 7, .inl (fun _ => 0))), (q4, .inl (cZ, 64, .inl (fun _ => 0))), (q5, .inl (cI, 60, .inl (fun _ => 0)))] H locs := h
  refine W.widen (k := 5) (n := 1207) (Nat.le_of_ble_eq_true rfl) (Nat.le_of_ble_eq_true rfl) ?_
  refine q_putF (v := .ref q5) (ws' := [(a_t, .inr (5, [.ref q1, .ref q2, .ref q3, .int 0, .ref q4, .ref q5, .null, .int 0, .int 0, .int 0, .int 0, .int 0, .null, .null, .null, .null, .null, .null])), (q1, .inl (cI, 538, .inl (fun _ => 0))), (q2, .inl (cI, 538, .inl (fun _ => 0))), (q3, .inl (cI, 7, .inl (fun _ => 0))), (q4, .inl (cZ, 64, .inl (fun _ => 0))), (q5, .inl (cI, 60, .inl (fun _ => 0)))]) fx hin inX5 tyX5 tyX5_ok nmX5 h 0 rfl rfl 5 (by decide) k_641 rfl rfl rfl rfl (Nat.le_of_ble_eq_true rfl) rfl dX5_init_43 (fun H locs h => ?_)
  refine lv_aload_n hx hb dX5_init_46 rfl (lv_at hl 0 rfl) ?_
  refine lv_bipush (v := 64) hx hb dX5_init_47 (by decide) ?_
  refine q_newI (N := 64) fx h k_109 (by decide) (by decide) (Nat.le_of_ble_eq_true rfl) (Nat.le_of_ble_eq_true rfl) (Nat.le_of_ble_eq_true rfl) dX5_init_49 (fun q6 H h => ?_)
  have h : q_H D A s [(a_t, .inr (5, [.ref q1, .ref q2, .ref q3, .int 0, .ref q4, .ref q5, .null, .int 0, .int 0, .int 0, .int 0, .int 0, .null, .null, .null, .null, .null, .null])), (q1, .inl (cI, 538, .inl (fun _ => 0))), (q2, .inl (cI, 538, .inl (fun _ => 0))), (q3, .inl (cI, 7, .inl (fun _ => 0))), (q4, .inl (cZ, 64, .inl (fun _ => 0))), (q5, .inl (cI, 60, .inl (fun _ => 0))), (q6, .inl (cI, 64, .inl (fun _ => 0)))] H locs := h
  refine W.widen (k := 6) (n := 1271) (Nat.le_of_ble_eq_true rfl) (Nat.le_of_ble_eq_true rfl) ?_
  refine q_putF (v := .ref q6) (ws' := [(a_t, .inr (5, [.ref q1, .ref q2, .ref q3, .int 0, .ref q4, .ref q5, .ref q6, .int 0, .int 0, .int 0, .int 0, .int 0, .null, .null, .null, .null, .null, .null])), (q1, .inl (cI, 538, .inl (fun _ => 0))), (q2, .inl (cI, 538, .inl (fun _ => 0))), (q3, .inl (cI, 7, .inl (fun _ => 0))), (q4, .inl (cZ, 64, .inl (fun _ => 0))), (q5, .inl (cI, 60, .inl (fun _ => 0))), (q6, .inl (cI, 64, .inl (fun _ => 0)))]) fx hin inX5 tyX5 tyX5_ok nmX5 h 0 rfl rfl 6 (by decide) k_642 rfl rfl rfl rfl (Nat.le_of_ble_eq_true rfl) rfl dX5_init_51 (fun H locs h => ?_)
  refine lv_aload_n hx hb dX5_init_54 rfl (lv_at hl 0 rfl) ?_
  refine lv_sipush (v := 256) hx hb dX5_init_55 (by decide) ?_
  refine q_newI (N := 256) fx h k_109 (by decide) (by decide) (Nat.le_of_ble_eq_true rfl) (Nat.le_of_ble_eq_true rfl) (Nat.le_of_ble_eq_true rfl) dX5_init_58 (fun q7 H h => ?_)
  have h : q_H D A s [(a_t, .inr (5, [.ref q1, .ref q2, .ref q3, .int 0, .ref q4, .ref q5, .ref q6, .int 0, .int 0, .int 0, .int 0, .int 0, .null, .null, .null, .null, .null, .null])), (q1, .inl (cI, 538, .inl (fun _ => 0))), (q2, .inl (cI, 538, .inl (fun _ => 0))), (q3, .inl (cI, 7, .inl (fun _ => 0))), (q4, .inl (cZ, 64, .inl (fun _ => 0))), (q5, .inl (cI, 60, .inl (fun _ => 0))), (q6, .inl (cI, 64, .inl (fun _ => 0))), (q7, .inl (cI, 256, .inl (fun _ => 0)))] H locs := h
  refine W.widen (k := 7) (n := 1527) (Nat.le_of_ble_eq_true rfl) (Nat.le_of_ble_eq_true rfl) ?_
  refine q_putF (v := .ref q7) (ws' := [(a_t, .inr (5, [.ref q1, .ref q2, .ref q3, .int 0, .ref q4, .ref q5, .ref q6, .int 0, .int 0, .int 0, .int 0, .int 0, .ref q7, .null, .null, .null, .null, .null])), (q1, .inl (cI, 538, .inl (fun _ => 0))), (q2, .inl (cI, 538, .inl (fun _ => 0))), (q3, .inl (cI, 7, .inl (fun _ => 0))), (q4, .inl (cZ, 64, .inl (fun _ => 0))), (q5, .inl (cI, 60, .inl (fun _ => 0))), (q6, .inl (cI, 64, .inl (fun _ => 0))), (q7, .inl (cI, 256, .inl (fun _ => 0)))]) fx hin inX5 tyX5 tyX5_ok nmX5 h 0 rfl rfl 12 (by decide) k_648 rfl rfl rfl rfl (Nat.le_of_ble_eq_true rfl) rfl dX5_init_60 (fun H locs h => ?_)
  refine lv_aload_n hx hb dX5_init_63 rfl (lv_at hl 0 rfl) ?_
  refine lv_sipush (v := 256) hx hb dX5_init_64 (by decide) ?_
  refine q_newI (N := 256) fx h k_109 (by decide) (by decide) (Nat.le_of_ble_eq_true rfl) (Nat.le_of_ble_eq_true rfl) (Nat.le_of_ble_eq_true rfl) dX5_init_67 (fun q8 H h => ?_)
  have h : q_H D A s [(a_t, .inr (5, [.ref q1, .ref q2, .ref q3, .int 0, .ref q4, .ref q5, .ref q6, .int 0, .int 0, .int 0, .int 0, .int 0, .ref q7, .null, .null, .null, .null, .null])), (q1, .inl (cI, 538, .inl (fun _ => 0))), (q2, .inl (cI, 538, .inl (fun _ => 0))), (q3, .inl (cI, 7, .inl (fun _ => 0))), (q4, .inl (cZ, 64, .inl (fun _ => 0))), (q5, .inl (cI, 60, .inl (fun _ => 0))), (q6, .inl (cI, 64, .inl (fun _ => 0))), (q7, .inl (cI, 256, .inl (fun _ => 0))), (q8, .inl (cI, 256, .inl (fun _ => 0)))] H locs := h
  refine W.widen (k := 8) (n := 1783) (Nat.le_of_ble_eq_true rfl) (Nat.le_of_ble_eq_true rfl) ?_
  refine q_putF (v := .ref q8) (ws' := [(a_t, .inr (5, [.ref q1, .ref q2, .ref q3, .int 0, .ref q4, .ref q5, .ref q6, .int 0, .int 0, .int 0, .int 0, .int 0, .ref q7, .ref q8, .null, .null, .null, .null])), (q1, .inl (cI, 538, .inl (fun _ => 0))), (q2, .inl (cI, 538, .inl (fun _ => 0))), (q3, .inl (cI, 7, .inl (fun _ => 0))), (q4, .inl (cZ, 64, .inl (fun _ => 0))), (q5, .inl (cI, 60, .inl (fun _ => 0))), (q6, .inl (cI, 64, .inl (fun _ => 0))), (q7, .inl (cI, 256, .inl (fun _ => 0))), (q8, .inl (cI, 256, .inl (fun _ => 0)))]) fx hin inX5 tyX5 tyX5_ok nmX5 h 0 rfl rfl 13 (by decide) k_649 rfl rfl rfl rfl (Nat.le_of_ble_eq_true rfl) rfl dX5_init_69 (fun H locs h => ?_)
  refine lv_aload_n hx hb dX5_init_72 rfl (lv_at hl 0 rfl) ?_
  refine lv_iconst (v := 4) hx hb dX5_init_73 (by decide) ?_
  refine q_newI (N := 4) fx h k_109 (by decide) (by decide) (Nat.le_of_ble_eq_true rfl) (Nat.le_of_ble_eq_true rfl) (Nat.le_of_ble_eq_true rfl) dX5_init_74 (fun q9 H h => ?_)
  have h : q_H D A s [(a_t, .inr (5, [.ref q1, .ref q2, .ref q3, .int 0, .ref q4, .ref q5, .ref q6, .int 0, .int 0, .int 0, .int 0, .int 0, .ref q7, .ref q8, .null, .null, .null, .null])), (q1, .inl (cI, 538, .inl (fun _ => 0))), (q2, .inl (cI, 538, .inl (fun _ => 0))), (q3, .inl (cI, 7, .inl (fun _ => 0))), (q4, .inl (cZ, 64, .inl (fun _ => 0))), (q5, .inl (cI, 60, .inl (fun _ => 0))), (q6, .inl (cI, 64, .inl (fun _ => 0))), (q7, .inl (cI, 256, .inl (fun _ => 0))), (q8, .inl (cI, 256, .inl (fun _ => 0))), (q9, .inl (cI, 4, .inl (fun _ => 0)))] H locs := h
  refine W.widen (k := 9) (n := 1787) (Nat.le_of_ble_eq_true rfl) (Nat.le_of_ble_eq_true rfl) ?_
  refine q_putF (v := .ref q9) (ws' := [(a_t, .inr (5, [.ref q1, .ref q2, .ref q3, .int 0, .ref q4, .ref q5, .ref q6, .int 0, .int 0, .int 0, .int 0, .int 0, .ref q7, .ref q8, .ref q9, .null, .null, .null])), (q1, .inl (cI, 538, .inl (fun _ => 0))), (q2, .inl (cI, 538, .inl (fun _ => 0))), (q3, .inl (cI, 7, .inl (fun _ => 0))), (q4, .inl (cZ, 64, .inl (fun _ => 0))), (q5, .inl (cI, 60, .inl (fun _ => 0))), (q6, .inl (cI, 64, .inl (fun _ => 0))), (q7, .inl (cI, 256, .inl (fun _ => 0))), (q8, .inl (cI, 256, .inl (fun _ => 0))), (q9, .inl (cI, 4, .inl (fun _ => 0)))]) fx hin inX5 tyX5 tyX5_ok nmX5 h 0 rfl rfl 14 (by decide) k_650 rfl rfl rfl rfl (Nat.le_of_ble_eq_true rfl) rfl dX5_init_76 (fun H locs h => ?_)
  refine lv_aload_n hx hb dX5_init_79 rfl (lv_at hl 0 rfl) ?_
  refine lv_iconst (v := 4) hx hb dX5_init_80 (by decide) ?_
  refine q_newI (N := 4) fx h k_109 (by decide) (by decide) (Nat.le_of_ble_eq_true rfl) (Nat.le_of_ble_eq_true rfl) (Nat.le_of_ble_eq_true rfl) dX5_init_81 (fun q10 H h => ?_)
  have h : q_H D A s [(a_t, .inr (5, [.ref q1, .ref q2, .ref q3, .int 0, .ref q4, .ref q5, .ref q6, .int 0, .int 0, .int 0, .int 0, .int 0, .ref q7, .ref q8, .ref q9, .null, .null, .null])), (q1, .inl (cI, 538, .inl (fun _ => 0))), (q2, .inl (cI, 538, .inl (fun _ => 0))), (q3, .inl (cI, 7, .inl (fun _ => 0))), (q4, .inl (cZ, 64, .inl (fun _ => 0))), (q5, .inl (cI, 60, .inl (fun _ => 0))), (q6, .inl (cI, 64, .inl (fun _ => 0))), (q7, .inl (cI, 256, .inl (fun _ => 0))), (q8, .inl (cI, 256, .inl (fun _ => 0))), (q9, .inl (cI, 4, .inl (fun _ => 0))), (q10, .inl (cI, 4, .inl (fun _ => 0)))] H locs := h
  refine W.widen (k := 10) (n := 1791) (Nat.le_of_ble_eq_true rfl) (Nat.le_of_ble_eq_true rfl) ?_
  refine q_putF (v := .ref q10) (ws' := [(a_t, .inr (5, [.ref q1, .ref q2, .ref q3, .int 0, .ref q4, .ref q5, .ref q6, .int 0, .int 0, .int 0, .int 0, .int 0, .ref q7, .ref q8, .ref q9, .ref q10, .null, .null])), (q1, .inl (cI, 538, .inl (fun _ => 0))), (q2, .inl (cI, 538, .inl (fun _ => 0))), (q3, .inl (cI, 7, .inl (fun _ => 0))), (q4, .inl (cZ, 64, .inl (fun _ => 0))), (q5, .inl (cI, 60, .inl (fun _ => 0))), (q6, .inl (cI, 64, .inl (fun _ => 0))), (q7, .inl (cI, 256, .inl (fun _ => 0))), (q8, .inl (cI, 256, .inl (fun _ => 0))), (q9, .inl (cI, 4, .inl (fun _ => 0))), (q10, .inl (cI, 4, .inl (fun _ => 0)))]) fx hin inX5 tyX5 tyX5_ok nmX5 h 0 rfl rfl 15 (by decide) k_651 rfl rfl rfl rfl (Nat.le_of_ble_eq_true rfl) rfl dX5_init_83 (fun H locs h => ?_)
  refine lv_aload_n hx hb dX5_init_86 rfl (lv_at hl 0 rfl) ?_
  refine lv_sipush (v := 160) hx hb dX5_init_87 (by decide) ?_
  refine q_newJ (N := 160) fx h k_110 (by decide) (by decide) (Nat.le_of_ble_eq_true rfl) (Nat.le_of_ble_eq_true rfl) (Nat.le_of_ble_eq_true rfl) dX5_init_90 (fun q11 H h => ?_)
  have h : q_H D A s [(a_t, .inr (5, [.ref q1, .ref q2, .ref q3, .int 0, .ref q4, .ref q5, .ref q6, .int 0, .int 0, .int 0, .int 0, .int 0, .ref q7, .ref q8, .ref q9, .ref q10, .null, .null])), (q1, .inl (cI, 538, .inl (fun _ => 0))), (q2, .inl (cI, 538, .inl (fun _ => 0))), (q3, .inl (cI, 7, .inl (fun _ => 0))), (q4, .inl (cZ, 64, .inl (fun _ => 0))), (q5, .inl (cI, 60, .inl (fun _ => 0))), (q6, .inl (cI, 64, .inl (fun _ => 0))), (q7, .inl (cI, 256, .inl (fun _ => 0))), (q8, .inl (cI, 256, .inl (fun _ => 0))), (q9, .inl (cI, 4, .inl (fun _ => 0))), (q10, .inl (cI, 4, .inl (fun _ => 0))), (q11, .inl (cJ, 160, .inr (.inl (fun _ => 0))))] H locs := h
  refine W.widen (k := 11) (n := 1951) (Nat.le_of_ble_eq_true rfl) (Nat.le_of_ble_eq_true rfl) ?_
  refine q_putF (v := .ref q11) (ws' := [(a_t, .inr (5, [.ref q1, .ref q2, .ref q3, .int 0, .ref q4, .ref q5, .ref q6, .int 0, .int 0, .int 0, .int 0, .int 0, .ref q7, .ref q8, .ref q9, .ref q10, .ref q11, .null])), (q1, .inl (cI, 538, .inl (fun _ => 0))), (q2, .inl (cI, 538, .inl (fun _ => 0))), (q3, .inl (cI, 7, .inl (fun _ => 0))), (q4, .inl (cZ, 64, .inl (fun _ => 0))), (q5, .inl (cI, 60, .inl (fun _ => 0))), (q6, .inl (cI, 64, .inl (fun _ => 0))), (q7, .inl (cI, 256, .inl (fun _ => 0))), (q8, .inl (cI, 256, .inl (fun _ => 0))), (q9, .inl (cI, 4, .inl (fun _ => 0))), (q10, .inl (cI, 4, .inl (fun _ => 0))), (q11, .inl (cJ, 160, .inr (.inl (fun _ => 0))))]) fx hin inX5 tyX5 tyX5_ok nmX5 h 0 rfl rfl 16 (by decide) k_652 rfl rfl rfl rfl (Nat.le_of_ble_eq_true rfl) rfl dX5_init_92 (fun H locs h => ?_)
  refine lv_aload_n hx hb dX5_init_95 rfl (lv_at hl 0 rfl) ?_
  refine lv_bipush (v := 40) hx hb dX5_init_96 (by decide) ?_
  refine q_newJ (N := 40) fx h k_110 (by decide) (by decide) (Nat.le_of_ble_eq_true rfl) (Nat.le_of_ble_eq_true rfl) (Nat.le_of_ble_eq_true rfl) dX5_init_98 (fun q12 H h => ?_)
  have h : q_H D A s [(a_t, .inr (5, [.ref q1, .ref q2, .ref q3, .int 0, .ref q4, .ref q5, .ref q6, .int 0, .int 0, .int 0, .int 0, .int 0, .ref q7, .ref q8, .ref q9, .ref q10, .ref q11, .null])), (q1, .inl (cI, 538, .inl (fun _ => 0))), (q2, .inl (cI, 538, .inl (fun _ => 0))), (q3, .inl (cI, 7, .inl (fun _ => 0))), (q4, .inl (cZ, 64, .inl (fun _ => 0))), (q5, .inl (cI, 60, .inl (fun _ => 0))), (q6, .inl (cI, 64, .inl (fun _ => 0))), (q7, .inl (cI, 256, .inl (fun _ => 0))), (q8, .inl (cI, 256, .inl (fun _ => 0))), (q9, .inl (cI, 4, .inl (fun _ => 0))), (q10, .inl (cI, 4, .inl (fun _ => 0))), (q11, .inl (cJ, 160, .inr (.inl (fun _ => 0)))), (q12, .inl (cJ, 40, .inr (.inl (fun _ => 0))))] H locs := h
  refine W.widen (k := 12) (n := 1991) (Nat.le_of_ble_eq_true rfl) (Nat.le_of_ble_eq_true rfl) ?_
  refine q_putF (v := .ref q12) (ws' := [(a_t, .inr (5, [.ref q1, .ref q2, .ref q3, .int 0, .ref q4, .ref q5, .ref q6, .int 0, .int 0, .int 0, .int 0, .int 0, .ref q7, .ref q8, .ref q9, .ref q10, .ref q11, .ref q12])), (q1, .inl (cI, 538, .inl (fun _ => 0))), (q2, .inl (cI, 538, .inl (fun _ => 0))), (q3, .inl (cI, 7, .inl (fun _ => 0))), (q4, .inl (cZ, 64, .inl (fun _ => 0))), (q5, .inl (cI, 60, .inl (fun _ => 0))), (q6, .inl (cI, 64, .inl (fun _ => 0))), (q7, .inl (cI, 256, .inl (fun _ => 0))), (q8, .inl (cI, 256, .inl (fun _ => 0))), (q9, .inl (cI, 4, .inl (fun _ => 0))), (q10, .inl (cI, 4, .inl (fun _ => 0))), (q11, .inl (cJ, 160, .inr (.inl (fun _ => 0)))), (q12, .inl (cJ, 40, .inr (.inl (fun _ => 0))))]) fx hin inX5 tyX5 tyX5_ok nmX5 h 0 rfl rfl 17 (by decide) k_653 rfl rfl rfl rfl (Nat.le_of_ble_eq_true rfl) rfl dX5_init_100 (fun H locs h => ?_)
  have h := q_perm (ws' := nX5 cI cJ cZ cS a_t (fun k => ([q1, q2, q3, q4, q5, q6, q7, q8, q9, q10, q11, q12] : List Nat).getD k 0)) h [0, 1, 2, 3, 4, 5, 6, 7, 8, 9, 10, 11, 12] (by decide) rfl
  exact q_retn (fun u => nX5 cI cJ cZ cS a_t u) (fun k => ([q1, q2, q3, q4, q5, q6, q7, q8, q9, q10, q11, q12] : List Nat).getD k 0) fx h dX5_init_103
end
section
abbrev LT : Type := Int32 → Int32 → Int32 → Int32 → (Nat → Int32) → (Nat → Int32) → (Nat → Int64) → (Nat → Int32) → Int32 → Int32 → Int32 → (Nat → Int32) → (Nat → Int32) → (Nat → Int64) → (Nat → Int32) → Int32 → Int32 → Int32 → Int32 → Int32 → (Nat → Int32) → (Nat → Int32) → (Nat → Int32) → (Nat → Int32) → Int32 → Int32 → (Nat → Int64) → Int32 → Int32 → (Nat → Int64) → Int32 → Int32 → (Nat → Int64) → Int32 → Int32 → (Nat → Int64) → (Nat → Int32) → Int32 → Int32 → Int32 → Int32 → Int32 → Int32 → (Nat → Int32) → (Nat → Int32) → (Nat → Int32) → (Nat → Int32) → (Nat → Int32) → (Nat → Int32) → (Nat → Int32) → (Nat → Int32) → (Nat → Int32) → (Nat → Int32) → (Nat → Int64) → (Nat → Int64) → Prop
def S_guest (I0 I1 : LT) : Prop := ∀ (v_p1_isKept : Int32) (v_p1_party_size : Int32) (v_p1_party_list : Int32) (v_p1_party_told : Int32) (v_p1_party_kinds : Nat → Int32) (v_p1_party_costs : Nat → Int32) (v_p1_party_terms : Nat → Int64) (v_p1_party_known : Nat → Int32) (v_p1_kept_size : Int32) (v_p1_kept_list : Int32) (v_p1_kept_told : Int32) (v_p1_kept_kinds : Nat → Int32) (v_p1_kept_costs : Nat → Int32) (v_p1_kept_terms : Nat → Int64) (v_p1_kept_known : Nat → Int32) (v_p1_tape_length : Int32) (v_p1_tape_place : Int32) (v_p1_tape_fault : Int32) (v_p1_tape_teller : Int32) (v_p1_tape_word : Int32) (v_p1_tape_bytes : Nat → Int32) (v_p1_telephone_queue : Nat → Int32) (v_p1_telephone_callsTo : Nat → Int32) (v_p1_telephone_firstCalled : Nat → Int32) (v_p1_sheets0_bits : Int32) (v_p1_sheets0_size : Int32) (v_p1_sheets0_numbers : Nat → Int64) (v_p1_sheets1_bits : Int32) (v_p1_sheets1_size : Int32) (v_p1_sheets1_numbers : Nat → Int64) (v_p1_sheets2_bits : Int32) (v_p1_sheets2_size : Int32) (v_p1_sheets2_numbers : Nat → Int64) (v_p1_sheets3_bits : Int32) (v_p1_sheets3_size : Int32) (v_p1_sheets3_numbers : Nat → Int64) (v_p1_findings : Nat → Int32) (v_p2_isKept : Int32) (v_p2_taped : Int32) (v_p2_at : Int32) (v_p2_fault : Int32) (v_p2_laid : Int32) (v_p2_open : Int32) (v_p2_s : Nat → Int32) (v_p2_keptS : Nat → Int32) (v_p2_statuses : Nat → Int32) (v_p2_pile : Nat → Int32) (v_p2_tape : Nat → Int32) (v_p2_steps : Nat → Int32) (v_p2_wish : Nat → Int32) (v_p2_mark : Nat → Int32) (v_p2_bitsOf : Nat → Int32) (v_p2_sizeOf : Nat → Int32) (v_p2_number : Nat → Int64) (v_p2_moved : Nat → Int64) (x1 : Int32) (x2 : Int32), I0 v_p1_isKept v_p1_party_size v_p1_party_list v_p1_party_told v_p1_party_kinds v_p1_party_costs v_p1_party_terms v_p1_party_known v_p1_kept_size v_p1_kept_list v_p1_kept_told v_p1_kept_kinds v_p1_kept_costs v_p1_kept_terms v_p1_kept_known v_p1_tape_length v_p1_tape_place v_p1_tape_fault v_p1_tape_teller v_p1_tape_word v_p1_tape_bytes v_p1_telephone_queue v_p1_telephone_callsTo v_p1_telephone_firstCalled v_p1_sheets0_bits v_p1_sheets0_size v_p1_sheets0_numbers v_p1_sheets1_bits v_p1_sheets1_size v_p1_sheets1_numbers v_p1_sheets2_bits v_p1_sheets2_size v_p1_sheets2_numbers v_p1_sheets3_bits v_p1_sheets3_size v_p1_sheets3_numbers v_p1_findings v_p2_isKept v_p2_taped v_p2_at v_p2_fault v_p2_laid v_p2_open v_p2_s v_p2_keptS v_p2_statuses v_p2_pile v_p2_tape v_p2_steps v_p2_wish v_p2_mark v_p2_bitsOf v_p2_sizeOf v_p2_number v_p2_moved → ∃ (r1 : Int32) (k1 : Int32 × (Nat → Int32) × (Nat → Int32) × (Nat → Int32) × (Nat → Int32)) (r2 : Int32) (k2 : (Nat → Int32) × (Nat → Int32)), fX4_guest v_p1_party_size v_p1_party_kinds v_p1_party_costs v_p1_party_known v_p1_findings x1 x2 = some (r1, k1) ∧ fX5_guest v_p2_s v_p2_statuses x1 x2 = some (r2, k2) ∧ r1 = r2 ∧ I1 v_p1_isKept k1.1 v_p1_party_list v_p1_party_told k1.2.1 k1.2.2.1 v_p1_party_terms k1.2.2.2.1 v_p1_kept_size v_p1_kept_list v_p1_kept_told v_p1_kept_kinds v_p1_kept_costs v_p1_kept_terms v_p1_kept_known v_p1_tape_length v_p1_tape_place v_p1_tape_fault v_p1_tape_teller v_p1_tape_word v_p1_tape_bytes v_p1_telephone_queue v_p1_telephone_callsTo v_p1_telephone_firstCalled v_p1_sheets0_bits v_p1_sheets0_size v_p1_sheets0_numbers v_p1_sheets1_bits v_p1_sheets1_size v_p1_sheets1_numbers v_p1_sheets2_bits v_p1_sheets2_size v_p1_sheets2_numbers v_p1_sheets3_bits v_p1_sheets3_size v_p1_sheets3_numbers k1.2.2.2.2 v_p2_isKept v_p2_taped v_p2_at v_p2_fault v_p2_laid v_p2_open k2.1 v_p2_keptS k2.2 v_p2_pile v_p2_tape v_p2_steps v_p2_wish v_p2_mark v_p2_bitsOf v_p2_sizeOf v_p2_number v_p2_moved
def S_of (I0 I1 : LT) : Prop := ∀ (v_p1_isKept : Int32) (v_p1_party_size : Int32) (v_p1_party_list : Int32) (v_p1_party_told : Int32) (v_p1_party_kinds : Nat → Int32) (v_p1_party_costs : Nat → Int32) (v_p1_party_terms : Nat → Int64) (v_p1_party_known : Nat → Int32) (v_p1_kept_size : Int32) (v_p1_kept_list : Int32) (v_p1_kept_told : Int32) (v_p1_kept_kinds : Nat → Int32) (v_p1_kept_costs : Nat → Int32) (v_p1_kept_terms : Nat → Int64) (v_p1_kept_known : Nat → Int32) (v_p1_tape_length : Int32) (v_p1_tape_place : Int32) (v_p1_tape_fault : Int32) (v_p1_tape_teller : Int32) (v_p1_tape_word : Int32) (v_p1_tape_bytes : Nat → Int32) (v_p1_telephone_queue : Nat → Int32) (v_p1_telephone_callsTo : Nat → Int32) (v_p1_telephone_firstCalled : Nat → Int32) (v_p1_sheets0_bits : Int32) (v_p1_sheets0_size : Int32) (v_p1_sheets0_numbers : Nat → Int64) (v_p1_sheets1_bits : Int32) (v_p1_sheets1_size : Int32) (v_p1_sheets1_numbers : Nat → Int64) (v_p1_sheets2_bits : Int32) (v_p1_sheets2_size : Int32) (v_p1_sheets2_numbers : Nat → Int64) (v_p1_sheets3_bits : Int32) (v_p1_sheets3_size : Int32) (v_p1_sheets3_numbers : Nat → Int64) (v_p1_findings : Nat → Int32) (v_p2_isKept : Int32) (v_p2_taped : Int32) (v_p2_at : Int32) (v_p2_fault : Int32) (v_p2_laid : Int32) (v_p2_open : Int32) (v_p2_s : Nat → Int32) (v_p2_keptS : Nat → Int32) (v_p2_statuses : Nat → Int32) (v_p2_pile : Nat → Int32) (v_p2_tape : Nat → Int32) (v_p2_steps : Nat → Int32) (v_p2_wish : Nat → Int32) (v_p2_mark : Nat → Int32) (v_p2_bitsOf : Nat → Int32) (v_p2_sizeOf : Nat → Int32) (v_p2_number : Nat → Int64) (v_p2_moved : Nat → Int64) (x1 : Int32) (x2 : Int32), I0 v_p1_isKept v_p1_party_size v_p1_party_list v_p1_party_told v_p1_party_kinds v_p1_party_costs v_p1_party_terms v_p1_party_known v_p1_kept_size v_p1_kept_list v_p1_kept_told v_p1_kept_kinds v_p1_kept_costs v_p1_kept_terms v_p1_kept_known v_p1_tape_length v_p1_tape_place v_p1_tape_fault v_p1_tape_teller v_p1_tape_word v_p1_tape_bytes v_p1_telephone_queue v_p1_telephone_callsTo v_p1_telephone_firstCalled v_p1_sheets0_bits v_p1_sheets0_size v_p1_sheets0_numbers v_p1_sheets1_bits v_p1_sheets1_size v_p1_sheets1_numbers v_p1_sheets2_bits v_p1_sheets2_size v_p1_sheets2_numbers v_p1_sheets3_bits v_p1_sheets3_size v_p1_sheets3_numbers v_p1_findings v_p2_isKept v_p2_taped v_p2_at v_p2_fault v_p2_laid v_p2_open v_p2_s v_p2_keptS v_p2_statuses v_p2_pile v_p2_tape v_p2_steps v_p2_wish v_p2_mark v_p2_bitsOf v_p2_sizeOf v_p2_number v_p2_moved → ∃ (r1 : Int32) (k1 : (Nat → Int32) × (Nat → Int32)) (r2 : Int32) (k2 : (Nat → Int32) × (Nat → Int32)), fX4_of v_p1_party_size v_p1_party_list v_p1_party_kinds v_p1_party_costs v_p1_party_terms v_p1_party_known v_p1_findings x1 x2 = some (r1, k1) ∧ fX5_of v_p2_s v_p2_statuses v_p2_pile x1 x2 = some (r2, k2) ∧ r1 = r2 ∧ I1 v_p1_isKept v_p1_party_size v_p1_party_list v_p1_party_told v_p1_party_kinds v_p1_party_costs v_p1_party_terms k1.1 v_p1_kept_size v_p1_kept_list v_p1_kept_told v_p1_kept_kinds v_p1_kept_costs v_p1_kept_terms v_p1_kept_known v_p1_tape_length v_p1_tape_place v_p1_tape_fault v_p1_tape_teller v_p1_tape_word v_p1_tape_bytes v_p1_telephone_queue v_p1_telephone_callsTo v_p1_telephone_firstCalled v_p1_sheets0_bits v_p1_sheets0_size v_p1_sheets0_numbers v_p1_sheets1_bits v_p1_sheets1_size v_p1_sheets1_numbers v_p1_sheets2_bits v_p1_sheets2_size v_p1_sheets2_numbers v_p1_sheets3_bits v_p1_sheets3_size v_p1_sheets3_numbers k1.2 v_p2_isKept v_p2_taped v_p2_at v_p2_fault v_p2_laid v_p2_open v_p2_s v_p2_keptS k2.1 k2.2 v_p2_tape v_p2_steps v_p2_wish v_p2_mark v_p2_bitsOf v_p2_sizeOf v_p2_number v_p2_moved
def S_cost (I0 I1 : LT) : Prop := ∀ (v_p1_isKept : Int32) (v_p1_party_size : Int32) (v_p1_party_list : Int32) (v_p1_party_told : Int32) (v_p1_party_kinds : Nat → Int32) (v_p1_party_costs : Nat → Int32) (v_p1_party_terms : Nat → Int64) (v_p1_party_known : Nat → Int32) (v_p1_kept_size : Int32) (v_p1_kept_list : Int32) (v_p1_kept_told : Int32) (v_p1_kept_kinds : Nat → Int32) (v_p1_kept_costs : Nat → Int32) (v_p1_kept_terms : Nat → Int64) (v_p1_kept_known : Nat → Int32) (v_p1_tape_length : Int32) (v_p1_tape_place : Int32) (v_p1_tape_fault : Int32) (v_p1_tape_teller : Int32) (v_p1_tape_word : Int32) (v_p1_tape_bytes : Nat → Int32) (v_p1_telephone_queue : Nat → Int32) (v_p1_telephone_callsTo : Nat → Int32) (v_p1_telephone_firstCalled : Nat → Int32) (v_p1_sheets0_bits : Int32) (v_p1_sheets0_size : Int32) (v_p1_sheets0_numbers : Nat → Int64) (v_p1_sheets1_bits : Int32) (v_p1_sheets1_size : Int32) (v_p1_sheets1_numbers : Nat → Int64) (v_p1_sheets2_bits : Int32) (v_p1_sheets2_size : Int32) (v_p1_sheets2_numbers : Nat → Int64) (v_p1_sheets3_bits : Int32) (v_p1_sheets3_size : Int32) (v_p1_sheets3_numbers : Nat → Int64) (v_p1_findings : Nat → Int32) (v_p2_isKept : Int32) (v_p2_taped : Int32) (v_p2_at : Int32) (v_p2_fault : Int32) (v_p2_laid : Int32) (v_p2_open : Int32) (v_p2_s : Nat → Int32) (v_p2_keptS : Nat → Int32) (v_p2_statuses : Nat → Int32) (v_p2_pile : Nat → Int32) (v_p2_tape : Nat → Int32) (v_p2_steps : Nat → Int32) (v_p2_wish : Nat → Int32) (v_p2_mark : Nat → Int32) (v_p2_bitsOf : Nat → Int32) (v_p2_sizeOf : Nat → Int32) (v_p2_number : Nat → Int64) (v_p2_moved : Nat → Int64) (x1 : Int32) (x2 : Int32), I0 v_p1_isKept v_p1_party_size v_p1_party_list v_p1_party_told v_p1_party_kinds v_p1_party_costs v_p1_party_terms v_p1_party_known v_p1_kept_size v_p1_kept_list v_p1_kept_told v_p1_kept_kinds v_p1_kept_costs v_p1_kept_terms v_p1_kept_known v_p1_tape_length v_p1_tape_place v_p1_tape_fault v_p1_tape_teller v_p1_tape_word v_p1_tape_bytes v_p1_telephone_queue v_p1_telephone_callsTo v_p1_telephone_firstCalled v_p1_sheets0_bits v_p1_sheets0_size v_p1_sheets0_numbers v_p1_sheets1_bits v_p1_sheets1_size v_p1_sheets1_numbers v_p1_sheets2_bits v_p1_sheets2_size v_p1_sheets2_numbers v_p1_sheets3_bits v_p1_sheets3_size v_p1_sheets3_numbers v_p1_findings v_p2_isKept v_p2_taped v_p2_at v_p2_fault v_p2_laid v_p2_open v_p2_s v_p2_keptS v_p2_statuses v_p2_pile v_p2_tape v_p2_steps v_p2_wish v_p2_mark v_p2_bitsOf v_p2_sizeOf v_p2_number v_p2_moved → ∃ (r1 : Int32) (k1 : (Nat → Int32) × (Nat → Int32)) (r2 : Int32) (k2 : (Nat → Int32) × (Nat → Int32)), fX4_cost v_p1_party_size v_p1_party_costs v_p1_findings x1 x2 = some (r1, k1) ∧ fX5_cost v_p2_s v_p2_statuses x1 x2 = some (r2, k2) ∧ r1 = r2 ∧ I1 v_p1_isKept v_p1_party_size v_p1_party_list v_p1_party_told v_p1_party_kinds k1.1 v_p1_party_terms v_p1_party_known v_p1_kept_size v_p1_kept_list v_p1_kept_told v_p1_kept_kinds v_p1_kept_costs v_p1_kept_terms v_p1_kept_known v_p1_tape_length v_p1_tape_place v_p1_tape_fault v_p1_tape_teller v_p1_tape_word v_p1_tape_bytes v_p1_telephone_queue v_p1_telephone_callsTo v_p1_telephone_firstCalled v_p1_sheets0_bits v_p1_sheets0_size v_p1_sheets0_numbers v_p1_sheets1_bits v_p1_sheets1_size v_p1_sheets1_numbers v_p1_sheets2_bits v_p1_sheets2_size v_p1_sheets2_numbers v_p1_sheets3_bits v_p1_sheets3_size v_p1_sheets3_numbers k1.2 v_p2_isKept v_p2_taped v_p2_at v_p2_fault v_p2_laid v_p2_open k2.1 v_p2_keptS k2.2 v_p2_pile v_p2_tape v_p2_steps v_p2_wish v_p2_mark v_p2_bitsOf v_p2_sizeOf v_p2_number v_p2_moved
def S_turn (I0 I1 : LT) : Prop := ∀ (v_p1_isKept : Int32) (v_p1_party_size : Int32) (v_p1_party_list : Int32) (v_p1_party_told : Int32) (v_p1_party_kinds : Nat → Int32) (v_p1_party_costs : Nat → Int32) (v_p1_party_terms : Nat → Int64) (v_p1_party_known : Nat → Int32) (v_p1_kept_size : Int32) (v_p1_kept_list : Int32) (v_p1_kept_told : Int32) (v_p1_kept_kinds : Nat → Int32) (v_p1_kept_costs : Nat → Int32) (v_p1_kept_terms : Nat → Int64) (v_p1_kept_known : Nat → Int32) (v_p1_tape_length : Int32) (v_p1_tape_place : Int32) (v_p1_tape_fault : Int32) (v_p1_tape_teller : Int32) (v_p1_tape_word : Int32) (v_p1_tape_bytes : Nat → Int32) (v_p1_telephone_queue : Nat → Int32) (v_p1_telephone_callsTo : Nat → Int32) (v_p1_telephone_firstCalled : Nat → Int32) (v_p1_sheets0_bits : Int32) (v_p1_sheets0_size : Int32) (v_p1_sheets0_numbers : Nat → Int64) (v_p1_sheets1_bits : Int32) (v_p1_sheets1_size : Int32) (v_p1_sheets1_numbers : Nat → Int64) (v_p1_sheets2_bits : Int32) (v_p1_sheets2_size : Int32) (v_p1_sheets2_numbers : Nat → Int64) (v_p1_sheets3_bits : Int32) (v_p1_sheets3_size : Int32) (v_p1_sheets3_numbers : Nat → Int64) (v_p1_findings : Nat → Int32) (v_p2_isKept : Int32) (v_p2_taped : Int32) (v_p2_at : Int32) (v_p2_fault : Int32) (v_p2_laid : Int32) (v_p2_open : Int32) (v_p2_s : Nat → Int32) (v_p2_keptS : Nat → Int32) (v_p2_statuses : Nat → Int32) (v_p2_pile : Nat → Int32) (v_p2_tape : Nat → Int32) (v_p2_steps : Nat → Int32) (v_p2_wish : Nat → Int32) (v_p2_mark : Nat → Int32) (v_p2_bitsOf : Nat → Int32) (v_p2_sizeOf : Nat → Int32) (v_p2_number : Nat → Int64) (v_p2_moved : Nat → Int64) (x1 : Int32) (x2 : Int32), I0 v_p1_isKept v_p1_party_size v_p1_party_list v_p1_party_told v_p1_party_kinds v_p1_party_costs v_p1_party_terms v_p1_party_known v_p1_kept_size v_p1_kept_list v_p1_kept_told v_p1_kept_kinds v_p1_kept_costs v_p1_kept_terms v_p1_kept_known v_p1_tape_length v_p1_tape_place v_p1_tape_fault v_p1_tape_teller v_p1_tape_word v_p1_tape_bytes v_p1_telephone_queue v_p1_telephone_callsTo v_p1_telephone_firstCalled v_p1_sheets0_bits v_p1_sheets0_size v_p1_sheets0_numbers v_p1_sheets1_bits v_p1_sheets1_size v_p1_sheets1_numbers v_p1_sheets2_bits v_p1_sheets2_size v_p1_sheets2_numbers v_p1_sheets3_bits v_p1_sheets3_size v_p1_sheets3_numbers v_p1_findings v_p2_isKept v_p2_taped v_p2_at v_p2_fault v_p2_laid v_p2_open v_p2_s v_p2_keptS v_p2_statuses v_p2_pile v_p2_tape v_p2_steps v_p2_wish v_p2_mark v_p2_bitsOf v_p2_sizeOf v_p2_number v_p2_moved → ∃ (r1 : Int32) (k1 : (Nat → Int32) × (Nat → Int32) × (Nat → Int32)) (r2 : Int32) (k2 : (Nat → Int32) × (Nat → Int32)), fX4_turn v_p1_party_size v_p1_party_kinds v_p1_party_known v_p1_findings x1 x2 = some (r1, k1) ∧ fX5_turn v_p2_s v_p2_statuses x1 x2 = some (r2, k2) ∧ r1 = r2 ∧ I1 v_p1_isKept v_p1_party_size v_p1_party_list v_p1_party_told k1.1 v_p1_party_costs v_p1_party_terms k1.2.1 v_p1_kept_size v_p1_kept_list v_p1_kept_told v_p1_kept_kinds v_p1_kept_costs v_p1_kept_terms v_p1_kept_known v_p1_tape_length v_p1_tape_place v_p1_tape_fault v_p1_tape_teller v_p1_tape_word v_p1_tape_bytes v_p1_telephone_queue v_p1_telephone_callsTo v_p1_telephone_firstCalled v_p1_sheets0_bits v_p1_sheets0_size v_p1_sheets0_numbers v_p1_sheets1_bits v_p1_sheets1_size v_p1_sheets1_numbers v_p1_sheets2_bits v_p1_sheets2_size v_p1_sheets2_numbers v_p1_sheets3_bits v_p1_sheets3_size v_p1_sheets3_numbers k1.2.2 v_p2_isKept v_p2_taped v_p2_at v_p2_fault v_p2_laid v_p2_open k2.1 v_p2_keptS k2.2 v_p2_pile v_p2_tape v_p2_steps v_p2_wish v_p2_mark v_p2_bitsOf v_p2_sizeOf v_p2_number v_p2_moved
def S_as (I0 I1 : LT) : Prop := ∀ (v_p1_isKept : Int32) (v_p1_party_size : Int32) (v_p1_party_list : Int32) (v_p1_party_told : Int32) (v_p1_party_kinds : Nat → Int32) (v_p1_party_costs : Nat → Int32) (v_p1_party_terms : Nat → Int64) (v_p1_party_known : Nat → Int32) (v_p1_kept_size : Int32) (v_p1_kept_list : Int32) (v_p1_kept_told : Int32) (v_p1_kept_kinds : Nat → Int32) (v_p1_kept_costs : Nat → Int32) (v_p1_kept_terms : Nat → Int64) (v_p1_kept_known : Nat → Int32) (v_p1_tape_length : Int32) (v_p1_tape_place : Int32) (v_p1_tape_fault : Int32) (v_p1_tape_teller : Int32) (v_p1_tape_word : Int32) (v_p1_tape_bytes : Nat → Int32) (v_p1_telephone_queue : Nat → Int32) (v_p1_telephone_callsTo : Nat → Int32) (v_p1_telephone_firstCalled : Nat → Int32) (v_p1_sheets0_bits : Int32) (v_p1_sheets0_size : Int32) (v_p1_sheets0_numbers : Nat → Int64) (v_p1_sheets1_bits : Int32) (v_p1_sheets1_size : Int32) (v_p1_sheets1_numbers : Nat → Int64) (v_p1_sheets2_bits : Int32) (v_p1_sheets2_size : Int32) (v_p1_sheets2_numbers : Nat → Int64) (v_p1_sheets3_bits : Int32) (v_p1_sheets3_size : Int32) (v_p1_sheets3_numbers : Nat → Int64) (v_p1_findings : Nat → Int32) (v_p2_isKept : Int32) (v_p2_taped : Int32) (v_p2_at : Int32) (v_p2_fault : Int32) (v_p2_laid : Int32) (v_p2_open : Int32) (v_p2_s : Nat → Int32) (v_p2_keptS : Nat → Int32) (v_p2_statuses : Nat → Int32) (v_p2_pile : Nat → Int32) (v_p2_tape : Nat → Int32) (v_p2_steps : Nat → Int32) (v_p2_wish : Nat → Int32) (v_p2_mark : Nat → Int32) (v_p2_bitsOf : Nat → Int32) (v_p2_sizeOf : Nat → Int32) (v_p2_number : Nat → Int64) (v_p2_moved : Nat → Int64) (x1 : Int32) (x2 : Int32), I0 v_p1_isKept v_p1_party_size v_p1_party_list v_p1_party_told v_p1_party_kinds v_p1_party_costs v_p1_party_terms v_p1_party_known v_p1_kept_size v_p1_kept_list v_p1_kept_told v_p1_kept_kinds v_p1_kept_costs v_p1_kept_terms v_p1_kept_known v_p1_tape_length v_p1_tape_place v_p1_tape_fault v_p1_tape_teller v_p1_tape_word v_p1_tape_bytes v_p1_telephone_queue v_p1_telephone_callsTo v_p1_telephone_firstCalled v_p1_sheets0_bits v_p1_sheets0_size v_p1_sheets0_numbers v_p1_sheets1_bits v_p1_sheets1_size v_p1_sheets1_numbers v_p1_sheets2_bits v_p1_sheets2_size v_p1_sheets2_numbers v_p1_sheets3_bits v_p1_sheets3_size v_p1_sheets3_numbers v_p1_findings v_p2_isKept v_p2_taped v_p2_at v_p2_fault v_p2_laid v_p2_open v_p2_s v_p2_keptS v_p2_statuses v_p2_pile v_p2_tape v_p2_steps v_p2_wish v_p2_mark v_p2_bitsOf v_p2_sizeOf v_p2_number v_p2_moved → ∃ (r1 : Int32) (k1 : (Nat → Int32)) (r2 : Int32) (k2 : (Nat → Int32)), fX4_as v_p1_party_size v_p1_party_kinds v_p1_party_costs v_p1_findings x1 x2 = some (r1, k1) ∧ fX5_as v_p2_s v_p2_statuses x1 x2 = some (r2, k2) ∧ r1 = r2 ∧ I1 v_p1_isKept v_p1_party_size v_p1_party_list v_p1_party_told v_p1_party_kinds v_p1_party_costs v_p1_party_terms v_p1_party_known v_p1_kept_size v_p1_kept_list v_p1_kept_told v_p1_kept_kinds v_p1_kept_costs v_p1_kept_terms v_p1_kept_known v_p1_tape_length v_p1_tape_place v_p1_tape_fault v_p1_tape_teller v_p1_tape_word v_p1_tape_bytes v_p1_telephone_queue v_p1_telephone_callsTo v_p1_telephone_firstCalled v_p1_sheets0_bits v_p1_sheets0_size v_p1_sheets0_numbers v_p1_sheets1_bits v_p1_sheets1_size v_p1_sheets1_numbers v_p1_sheets2_bits v_p1_sheets2_size v_p1_sheets2_numbers v_p1_sheets3_bits v_p1_sheets3_size v_p1_sheets3_numbers k1 v_p2_isKept v_p2_taped v_p2_at v_p2_fault v_p2_laid v_p2_open v_p2_s v_p2_keptS k2 v_p2_pile v_p2_tape v_p2_steps v_p2_wish v_p2_mark v_p2_bitsOf v_p2_sizeOf v_p2_number v_p2_moved
def S_term (I0 I1 : LT) : Prop := ∀ (v_p1_isKept : Int32) (v_p1_party_size : Int32) (v_p1_party_list : Int32) (v_p1_party_told : Int32) (v_p1_party_kinds : Nat → Int32) (v_p1_party_costs : Nat → Int32) (v_p1_party_terms : Nat → Int64) (v_p1_party_known : Nat → Int32) (v_p1_kept_size : Int32) (v_p1_kept_list : Int32) (v_p1_kept_told : Int32) (v_p1_kept_kinds : Nat → Int32) (v_p1_kept_costs : Nat → Int32) (v_p1_kept_terms : Nat → Int64) (v_p1_kept_known : Nat → Int32) (v_p1_tape_length : Int32) (v_p1_tape_place : Int32) (v_p1_tape_fault : Int32) (v_p1_tape_teller : Int32) (v_p1_tape_word : Int32) (v_p1_tape_bytes : Nat → Int32) (v_p1_telephone_queue : Nat → Int32) (v_p1_telephone_callsTo : Nat → Int32) (v_p1_telephone_firstCalled : Nat → Int32) (v_p1_sheets0_bits : Int32) (v_p1_sheets0_size : Int32) (v_p1_sheets0_numbers : Nat → Int64) (v_p1_sheets1_bits : Int32) (v_p1_sheets1_size : Int32) (v_p1_sheets1_numbers : Nat → Int64) (v_p1_sheets2_bits : Int32) (v_p1_sheets2_size : Int32) (v_p1_sheets2_numbers : Nat → Int64) (v_p1_sheets3_bits : Int32) (v_p1_sheets3_size : Int32) (v_p1_sheets3_numbers : Nat → Int64) (v_p1_findings : Nat → Int32) (v_p2_isKept : Int32) (v_p2_taped : Int32) (v_p2_at : Int32) (v_p2_fault : Int32) (v_p2_laid : Int32) (v_p2_open : Int32) (v_p2_s : Nat → Int32) (v_p2_keptS : Nat → Int32) (v_p2_statuses : Nat → Int32) (v_p2_pile : Nat → Int32) (v_p2_tape : Nat → Int32) (v_p2_steps : Nat → Int32) (v_p2_wish : Nat → Int32) (v_p2_mark : Nat → Int32) (v_p2_bitsOf : Nat → Int32) (v_p2_sizeOf : Nat → Int32) (v_p2_number : Nat → Int64) (v_p2_moved : Nat → Int64) (x1 : Int32), I0 v_p1_isKept v_p1_party_size v_p1_party_list v_p1_party_told v_p1_party_kinds v_p1_party_costs v_p1_party_terms v_p1_party_known v_p1_kept_size v_p1_kept_list v_p1_kept_told v_p1_kept_kinds v_p1_kept_costs v_p1_kept_terms v_p1_kept_known v_p1_tape_length v_p1_tape_place v_p1_tape_fault v_p1_tape_teller v_p1_tape_word v_p1_tape_bytes v_p1_telephone_queue v_p1_telephone_callsTo v_p1_telephone_firstCalled v_p1_sheets0_bits v_p1_sheets0_size v_p1_sheets0_numbers v_p1_sheets1_bits v_p1_sheets1_size v_p1_sheets1_numbers v_p1_sheets2_bits v_p1_sheets2_size v_p1_sheets2_numbers v_p1_sheets3_bits v_p1_sheets3_size v_p1_sheets3_numbers v_p1_findings v_p2_isKept v_p2_taped v_p2_at v_p2_fault v_p2_laid v_p2_open v_p2_s v_p2_keptS v_p2_statuses v_p2_pile v_p2_tape v_p2_steps v_p2_wish v_p2_mark v_p2_bitsOf v_p2_sizeOf v_p2_number v_p2_moved → ∃ (r1 : Int32) (k1 : Int32 × (Nat → Int64) × (Nat → Int32) × Int32 × Int32 × Int32 × Int32 × Int32 × (Nat → Int32)) (r2 : Int32) (k2 : Int32 × Int32 × Int32 × Int32 × Int32 × (Nat → Int32) × (Nat → Int32) × (Nat → Int32)), fX4_term v_p1_party_size v_p1_party_told v_p1_party_terms v_p1_party_known v_p1_tape_length v_p1_tape_place v_p1_tape_fault v_p1_tape_teller v_p1_tape_word v_p1_tape_bytes v_p1_findings x1 = some (r1, k1) ∧ fX5_term v_p2_taped v_p2_at v_p2_fault v_p2_laid v_p2_open v_p2_s v_p2_statuses v_p2_tape v_p2_steps x1 = some (r2, k2) ∧ r1 = r2 ∧ I1 v_p1_isKept v_p1_party_size v_p1_party_list k1.1 v_p1_party_kinds v_p1_party_costs k1.2.1 k1.2.2.1 v_p1_kept_size v_p1_kept_list v_p1_kept_told v_p1_kept_kinds v_p1_kept_costs v_p1_kept_terms v_p1_kept_known k1.2.2.2.1 k1.2.2.2.2.1 k1.2.2.2.2.2.1 k1.2.2.2.2.2.2.1 k1.2.2.2.2.2.2.2.1 v_p1_tape_bytes v_p1_telephone_queue v_p1_telephone_callsTo v_p1_telephone_firstCalled v_p1_sheets0_bits v_p1_sheets0_size v_p1_sheets0_numbers v_p1_sheets1_bits v_p1_sheets1_size v_p1_sheets1_numbers v_p1_sheets2_bits v_p1_sheets2_size v_p1_sheets2_numbers v_p1_sheets3_bits v_p1_sheets3_size v_p1_sheets3_numbers k1.2.2.2.2.2.2.2.2 v_p2_isKept k2.1 k2.2.1 k2.2.2.1 k2.2.2.2.1 k2.2.2.2.2.1 k2.2.2.2.2.2.1 v_p2_keptS k2.2.2.2.2.2.2.1 v_p2_pile v_p2_tape k2.2.2.2.2.2.2.2 v_p2_wish v_p2_mark v_p2_bitsOf v_p2_sizeOf v_p2_number v_p2_moved
def S_feed (I0 I1 : LT) : Prop := ∀ (v_p1_isKept : Int32) (v_p1_party_size : Int32) (v_p1_party_list : Int32) (v_p1_party_told : Int32) (v_p1_party_kinds : Nat → Int32) (v_p1_party_costs : Nat → Int32) (v_p1_party_terms : Nat → Int64) (v_p1_party_known : Nat → Int32) (v_p1_kept_size : Int32) (v_p1_kept_list : Int32) (v_p1_kept_told : Int32) (v_p1_kept_kinds : Nat → Int32) (v_p1_kept_costs : Nat → Int32) (v_p1_kept_terms : Nat → Int64) (v_p1_kept_known : Nat → Int32) (v_p1_tape_length : Int32) (v_p1_tape_place : Int32) (v_p1_tape_fault : Int32) (v_p1_tape_teller : Int32) (v_p1_tape_word : Int32) (v_p1_tape_bytes : Nat → Int32) (v_p1_telephone_queue : Nat → Int32) (v_p1_telephone_callsTo : Nat → Int32) (v_p1_telephone_firstCalled : Nat → Int32) (v_p1_sheets0_bits : Int32) (v_p1_sheets0_size : Int32) (v_p1_sheets0_numbers : Nat → Int64) (v_p1_sheets1_bits : Int32) (v_p1_sheets1_size : Int32) (v_p1_sheets1_numbers : Nat → Int64) (v_p1_sheets2_bits : Int32) (v_p1_sheets2_size : Int32) (v_p1_sheets2_numbers : Nat → Int64) (v_p1_sheets3_bits : Int32) (v_p1_sheets3_size : Int32) (v_p1_sheets3_numbers : Nat → Int64) (v_p1_findings : Nat → Int32) (v_p2_isKept : Int32) (v_p2_taped : Int32) (v_p2_at : Int32) (v_p2_fault : Int32) (v_p2_laid : Int32) (v_p2_open : Int32) (v_p2_s : Nat → Int32) (v_p2_keptS : Nat → Int32) (v_p2_statuses : Nat → Int32) (v_p2_pile : Nat → Int32) (v_p2_tape : Nat → Int32) (v_p2_steps : Nat → Int32) (v_p2_wish : Nat → Int32) (v_p2_mark : Nat → Int32) (v_p2_bitsOf : Nat → Int32) (v_p2_sizeOf : Nat → Int32) (v_p2_number : Nat → Int64) (v_p2_moved : Nat → Int64) (x1 : Int32) (x2 : Int32), I0 v_p1_isKept v_p1_party_size v_p1_party_list v_p1_party_told v_p1_party_kinds v_p1_party_costs v_p1_party_terms v_p1_party_known v_p1_kept_size v_p1_kept_list v_p1_kept_told v_p1_kept_kinds v_p1_kept_costs v_p1_kept_terms v_p1_kept_known v_p1_tape_length v_p1_tape_place v_p1_tape_fault v_p1_tape_teller v_p1_tape_word v_p1_tape_bytes v_p1_telephone_queue v_p1_telephone_callsTo v_p1_telephone_firstCalled v_p1_sheets0_bits v_p1_sheets0_size v_p1_sheets0_numbers v_p1_sheets1_bits v_p1_sheets1_size v_p1_sheets1_numbers v_p1_sheets2_bits v_p1_sheets2_size v_p1_sheets2_numbers v_p1_sheets3_bits v_p1_sheets3_size v_p1_sheets3_numbers v_p1_findings v_p2_isKept v_p2_taped v_p2_at v_p2_fault v_p2_laid v_p2_open v_p2_s v_p2_keptS v_p2_statuses v_p2_pile v_p2_tape v_p2_steps v_p2_wish v_p2_mark v_p2_bitsOf v_p2_sizeOf v_p2_number v_p2_moved → ∃ (r1 : Int32) (k1 : Int32 × (Nat → Int32) × (Nat → Int32)) (r2 : Int32) (k2 : Int32 × (Nat → Int32) × (Nat → Int32)), fX4_feed v_p1_tape_length v_p1_tape_bytes v_p1_findings x1 x2 = some (r1, k1) ∧ fX5_feed v_p2_taped v_p2_statuses v_p2_tape x1 x2 = some (r2, k2) ∧ r1 = r2 ∧ I1 v_p1_isKept v_p1_party_size v_p1_party_list v_p1_party_told v_p1_party_kinds v_p1_party_costs v_p1_party_terms v_p1_party_known v_p1_kept_size v_p1_kept_list v_p1_kept_told v_p1_kept_kinds v_p1_kept_costs v_p1_kept_terms v_p1_kept_known k1.1 v_p1_tape_place v_p1_tape_fault v_p1_tape_teller v_p1_tape_word k1.2.1 v_p1_telephone_queue v_p1_telephone_callsTo v_p1_telephone_firstCalled v_p1_sheets0_bits v_p1_sheets0_size v_p1_sheets0_numbers v_p1_sheets1_bits v_p1_sheets1_size v_p1_sheets1_numbers v_p1_sheets2_bits v_p1_sheets2_size v_p1_sheets2_numbers v_p1_sheets3_bits v_p1_sheets3_size v_p1_sheets3_numbers k1.2.2 v_p2_isKept k2.1 v_p2_at v_p2_fault v_p2_laid v_p2_open v_p2_s v_p2_keptS k2.2.1 v_p2_pile k2.2.2 v_p2_steps v_p2_wish v_p2_mark v_p2_bitsOf v_p2_sizeOf v_p2_number v_p2_moved
def S_wipe (I0 I1 : LT) : Prop := ∀ (v_p1_isKept : Int32) (v_p1_party_size : Int32) (v_p1_party_list : Int32) (v_p1_party_told : Int32) (v_p1_party_kinds : Nat → Int32) (v_p1_party_costs : Nat → Int32) (v_p1_party_terms : Nat → Int64) (v_p1_party_known : Nat → Int32) (v_p1_kept_size : Int32) (v_p1_kept_list : Int32) (v_p1_kept_told : Int32) (v_p1_kept_kinds : Nat → Int32) (v_p1_kept_costs : Nat → Int32) (v_p1_kept_terms : Nat → Int64) (v_p1_kept_known : Nat → Int32) (v_p1_tape_length : Int32) (v_p1_tape_place : Int32) (v_p1_tape_fault : Int32) (v_p1_tape_teller : Int32) (v_p1_tape_word : Int32) (v_p1_tape_bytes : Nat → Int32) (v_p1_telephone_queue : Nat → Int32) (v_p1_telephone_callsTo : Nat → Int32) (v_p1_telephone_firstCalled : Nat → Int32) (v_p1_sheets0_bits : Int32) (v_p1_sheets0_size : Int32) (v_p1_sheets0_numbers : Nat → Int64) (v_p1_sheets1_bits : Int32) (v_p1_sheets1_size : Int32) (v_p1_sheets1_numbers : Nat → Int64) (v_p1_sheets2_bits : Int32) (v_p1_sheets2_size : Int32) (v_p1_sheets2_numbers : Nat → Int64) (v_p1_sheets3_bits : Int32) (v_p1_sheets3_size : Int32) (v_p1_sheets3_numbers : Nat → Int64) (v_p1_findings : Nat → Int32) (v_p2_isKept : Int32) (v_p2_taped : Int32) (v_p2_at : Int32) (v_p2_fault : Int32) (v_p2_laid : Int32) (v_p2_open : Int32) (v_p2_s : Nat → Int32) (v_p2_keptS : Nat → Int32) (v_p2_statuses : Nat → Int32) (v_p2_pile : Nat → Int32) (v_p2_tape : Nat → Int32) (v_p2_steps : Nat → Int32) (v_p2_wish : Nat → Int32) (v_p2_mark : Nat → Int32) (v_p2_bitsOf : Nat → Int32) (v_p2_sizeOf : Nat → Int32) (v_p2_number : Nat → Int64) (v_p2_moved : Nat → Int64), I0 v_p1_isKept v_p1_party_size v_p1_party_list v_p1_party_told v_p1_party_kinds v_p1_party_costs v_p1_party_terms v_p1_party_known v_p1_kept_size v_p1_kept_list v_p1_kept_told v_p1_kept_kinds v_p1_kept_costs v_p1_kept_terms v_p1_kept_known v_p1_tape_length v_p1_tape_place v_p1_tape_fault v_p1_tape_teller v_p1_tape_word v_p1_tape_bytes v_p1_telephone_queue v_p1_telephone_callsTo v_p1_telephone_firstCalled v_p1_sheets0_bits v_p1_sheets0_size v_p1_sheets0_numbers v_p1_sheets1_bits v_p1_sheets1_size v_p1_sheets1_numbers v_p1_sheets2_bits v_p1_sheets2_size v_p1_sheets2_numbers v_p1_sheets3_bits v_p1_sheets3_size v_p1_sheets3_numbers v_p1_findings v_p2_isKept v_p2_taped v_p2_at v_p2_fault v_p2_laid v_p2_open v_p2_s v_p2_keptS v_p2_statuses v_p2_pile v_p2_tape v_p2_steps v_p2_wish v_p2_mark v_p2_bitsOf v_p2_sizeOf v_p2_number v_p2_moved → ∃ (r1 : Int32) (k1 : Int32) (r2 : Int32) (k2 : Int32), fX4_wipe v_p1_tape_length = some (r1, k1) ∧ fX5_wipe v_p2_taped = some (r2, k2) ∧ r1 = r2 ∧ I1 v_p1_isKept v_p1_party_size v_p1_party_list v_p1_party_told v_p1_party_kinds v_p1_party_costs v_p1_party_terms v_p1_party_known v_p1_kept_size v_p1_kept_list v_p1_kept_told v_p1_kept_kinds v_p1_kept_costs v_p1_kept_terms v_p1_kept_known k1 v_p1_tape_place v_p1_tape_fault v_p1_tape_teller v_p1_tape_word v_p1_tape_bytes v_p1_telephone_queue v_p1_telephone_callsTo v_p1_telephone_firstCalled v_p1_sheets0_bits v_p1_sheets0_size v_p1_sheets0_numbers v_p1_sheets1_bits v_p1_sheets1_size v_p1_sheets1_numbers v_p1_sheets2_bits v_p1_sheets2_size v_p1_sheets2_numbers v_p1_sheets3_bits v_p1_sheets3_size v_p1_sheets3_numbers v_p1_findings v_p2_isKept k2 v_p2_at v_p2_fault v_p2_laid v_p2_open v_p2_s v_p2_keptS v_p2_statuses v_p2_pile v_p2_tape v_p2_steps v_p2_wish v_p2_mark v_p2_bitsOf v_p2_sizeOf v_p2_number v_p2_moved
def S_list (I0 I1 : LT) : Prop := ∀ (v_p1_isKept : Int32) (v_p1_party_size : Int32) (v_p1_party_list : Int32) (v_p1_party_told : Int32) (v_p1_party_kinds : Nat → Int32) (v_p1_party_costs : Nat → Int32) (v_p1_party_terms : Nat → Int64) (v_p1_party_known : Nat → Int32) (v_p1_kept_size : Int32) (v_p1_kept_list : Int32) (v_p1_kept_told : Int32) (v_p1_kept_kinds : Nat → Int32) (v_p1_kept_costs : Nat → Int32) (v_p1_kept_terms : Nat → Int64) (v_p1_kept_known : Nat → Int32) (v_p1_tape_length : Int32) (v_p1_tape_place : Int32) (v_p1_tape_fault : Int32) (v_p1_tape_teller : Int32) (v_p1_tape_word : Int32) (v_p1_tape_bytes : Nat → Int32) (v_p1_telephone_queue : Nat → Int32) (v_p1_telephone_callsTo : Nat → Int32) (v_p1_telephone_firstCalled : Nat → Int32) (v_p1_sheets0_bits : Int32) (v_p1_sheets0_size : Int32) (v_p1_sheets0_numbers : Nat → Int64) (v_p1_sheets1_bits : Int32) (v_p1_sheets1_size : Int32) (v_p1_sheets1_numbers : Nat → Int64) (v_p1_sheets2_bits : Int32) (v_p1_sheets2_size : Int32) (v_p1_sheets2_numbers : Nat → Int64) (v_p1_sheets3_bits : Int32) (v_p1_sheets3_size : Int32) (v_p1_sheets3_numbers : Nat → Int64) (v_p1_findings : Nat → Int32) (v_p2_isKept : Int32) (v_p2_taped : Int32) (v_p2_at : Int32) (v_p2_fault : Int32) (v_p2_laid : Int32) (v_p2_open : Int32) (v_p2_s : Nat → Int32) (v_p2_keptS : Nat → Int32) (v_p2_statuses : Nat → Int32) (v_p2_pile : Nat → Int32) (v_p2_tape : Nat → Int32) (v_p2_steps : Nat → Int32) (v_p2_wish : Nat → Int32) (v_p2_mark : Nat → Int32) (v_p2_bitsOf : Nat → Int32) (v_p2_sizeOf : Nat → Int32) (v_p2_number : Nat → Int64) (v_p2_moved : Nat → Int64) (x1 : Int32), I0 v_p1_isKept v_p1_party_size v_p1_party_list v_p1_party_told v_p1_party_kinds v_p1_party_costs v_p1_party_terms v_p1_party_known v_p1_kept_size v_p1_kept_list v_p1_kept_told v_p1_kept_kinds v_p1_kept_costs v_p1_kept_terms v_p1_kept_known v_p1_tape_length v_p1_tape_place v_p1_tape_fault v_p1_tape_teller v_p1_tape_word v_p1_tape_bytes v_p1_telephone_queue v_p1_telephone_callsTo v_p1_telephone_firstCalled v_p1_sheets0_bits v_p1_sheets0_size v_p1_sheets0_numbers v_p1_sheets1_bits v_p1_sheets1_size v_p1_sheets1_numbers v_p1_sheets2_bits v_p1_sheets2_size v_p1_sheets2_numbers v_p1_sheets3_bits v_p1_sheets3_size v_p1_sheets3_numbers v_p1_findings v_p2_isKept v_p2_taped v_p2_at v_p2_fault v_p2_laid v_p2_open v_p2_s v_p2_keptS v_p2_statuses v_p2_pile v_p2_tape v_p2_steps v_p2_wish v_p2_mark v_p2_bitsOf v_p2_sizeOf v_p2_number v_p2_moved → ∃ (r1 : Int32) (k1 : Int32 × (Nat → Int32)) (r2 : Int32) (k2 : (Nat → Int32) × (Nat → Int32)), fX4_list v_p1_party_size v_p1_party_list v_p1_findings x1 = some (r1, k1) ∧ fX5_list v_p2_s v_p2_statuses x1 = some (r2, k2) ∧ r1 = r2 ∧ I1 v_p1_isKept v_p1_party_size k1.1 v_p1_party_told v_p1_party_kinds v_p1_party_costs v_p1_party_terms v_p1_party_known v_p1_kept_size v_p1_kept_list v_p1_kept_told v_p1_kept_kinds v_p1_kept_costs v_p1_kept_terms v_p1_kept_known v_p1_tape_length v_p1_tape_place v_p1_tape_fault v_p1_tape_teller v_p1_tape_word v_p1_tape_bytes v_p1_telephone_queue v_p1_telephone_callsTo v_p1_telephone_firstCalled v_p1_sheets0_bits v_p1_sheets0_size v_p1_sheets0_numbers v_p1_sheets1_bits v_p1_sheets1_size v_p1_sheets1_numbers v_p1_sheets2_bits v_p1_sheets2_size v_p1_sheets2_numbers v_p1_sheets3_bits v_p1_sheets3_size v_p1_sheets3_numbers k1.2 v_p2_isKept v_p2_taped v_p2_at v_p2_fault v_p2_laid v_p2_open k2.1 v_p2_keptS k2.2 v_p2_pile v_p2_tape v_p2_steps v_p2_wish v_p2_mark v_p2_bitsOf v_p2_sizeOf v_p2_number v_p2_moved
def S_now (I0 I1 : LT) : Prop := ∀ (v_p1_isKept : Int32) (v_p1_party_size : Int32) (v_p1_party_list : Int32) (v_p1_party_told : Int32) (v_p1_party_kinds : Nat → Int32) (v_p1_party_costs : Nat → Int32) (v_p1_party_terms : Nat → Int64) (v_p1_party_known : Nat → Int32) (v_p1_kept_size : Int32) (v_p1_kept_list : Int32) (v_p1_kept_told : Int32) (v_p1_kept_kinds : Nat → Int32) (v_p1_kept_costs : Nat → Int32) (v_p1_kept_terms : Nat → Int64) (v_p1_kept_known : Nat → Int32) (v_p1_tape_length : Int32) (v_p1_tape_place : Int32) (v_p1_tape_fault : Int32) (v_p1_tape_teller : Int32) (v_p1_tape_word : Int32) (v_p1_tape_bytes : Nat → Int32) (v_p1_telephone_queue : Nat → Int32) (v_p1_telephone_callsTo : Nat → Int32) (v_p1_telephone_firstCalled : Nat → Int32) (v_p1_sheets0_bits : Int32) (v_p1_sheets0_size : Int32) (v_p1_sheets0_numbers : Nat → Int64) (v_p1_sheets1_bits : Int32) (v_p1_sheets1_size : Int32) (v_p1_sheets1_numbers : Nat → Int64) (v_p1_sheets2_bits : Int32) (v_p1_sheets2_size : Int32) (v_p1_sheets2_numbers : Nat → Int64) (v_p1_sheets3_bits : Int32) (v_p1_sheets3_size : Int32) (v_p1_sheets3_numbers : Nat → Int64) (v_p1_findings : Nat → Int32) (v_p2_isKept : Int32) (v_p2_taped : Int32) (v_p2_at : Int32) (v_p2_fault : Int32) (v_p2_laid : Int32) (v_p2_open : Int32) (v_p2_s : Nat → Int32) (v_p2_keptS : Nat → Int32) (v_p2_statuses : Nat → Int32) (v_p2_pile : Nat → Int32) (v_p2_tape : Nat → Int32) (v_p2_steps : Nat → Int32) (v_p2_wish : Nat → Int32) (v_p2_mark : Nat → Int32) (v_p2_bitsOf : Nat → Int32) (v_p2_sizeOf : Nat → Int32) (v_p2_number : Nat → Int64) (v_p2_moved : Nat → Int64) (x1 : Int32), I0 v_p1_isKept v_p1_party_size v_p1_party_list v_p1_party_told v_p1_party_kinds v_p1_party_costs v_p1_party_terms v_p1_party_known v_p1_kept_size v_p1_kept_list v_p1_kept_told v_p1_kept_kinds v_p1_kept_costs v_p1_kept_terms v_p1_kept_known v_p1_tape_length v_p1_tape_place v_p1_tape_fault v_p1_tape_teller v_p1_tape_word v_p1_tape_bytes v_p1_telephone_queue v_p1_telephone_callsTo v_p1_telephone_firstCalled v_p1_sheets0_bits v_p1_sheets0_size v_p1_sheets0_numbers v_p1_sheets1_bits v_p1_sheets1_size v_p1_sheets1_numbers v_p1_sheets2_bits v_p1_sheets2_size v_p1_sheets2_numbers v_p1_sheets3_bits v_p1_sheets3_size v_p1_sheets3_numbers v_p1_findings v_p2_isKept v_p2_taped v_p2_at v_p2_fault v_p2_laid v_p2_open v_p2_s v_p2_keptS v_p2_statuses v_p2_pile v_p2_tape v_p2_steps v_p2_wish v_p2_mark v_p2_bitsOf v_p2_sizeOf v_p2_number v_p2_moved → ∃ (r1 : Int32) (k1 : (Nat → Int32) × (Nat → Int32)) (r2 : Int32) (k2 : (Nat → Int32) × (Nat → Int32)), fX4_now v_p1_party_size v_p1_party_list v_p1_party_kinds v_p1_party_costs v_p1_party_terms v_p1_party_known v_p1_findings x1 = some (r1, k1) ∧ fX5_now v_p2_s v_p2_statuses v_p2_pile x1 = some (r2, k2) ∧ r1 = r2 ∧ I1 v_p1_isKept v_p1_party_size v_p1_party_list v_p1_party_told v_p1_party_kinds v_p1_party_costs v_p1_party_terms k1.1 v_p1_kept_size v_p1_kept_list v_p1_kept_told v_p1_kept_kinds v_p1_kept_costs v_p1_kept_terms v_p1_kept_known v_p1_tape_length v_p1_tape_place v_p1_tape_fault v_p1_tape_teller v_p1_tape_word v_p1_tape_bytes v_p1_telephone_queue v_p1_telephone_callsTo v_p1_telephone_firstCalled v_p1_sheets0_bits v_p1_sheets0_size v_p1_sheets0_numbers v_p1_sheets1_bits v_p1_sheets1_size v_p1_sheets1_numbers v_p1_sheets2_bits v_p1_sheets2_size v_p1_sheets2_numbers v_p1_sheets3_bits v_p1_sheets3_size v_p1_sheets3_numbers k1.2 v_p2_isKept v_p2_taped v_p2_at v_p2_fault v_p2_laid v_p2_open v_p2_s v_p2_keptS k2.1 k2.2 v_p2_tape v_p2_steps v_p2_wish v_p2_mark v_p2_bitsOf v_p2_sizeOf v_p2_number v_p2_moved
def S_call (I0 I1 : LT) : Prop := ∀ (v_p1_isKept : Int32) (v_p1_party_size : Int32) (v_p1_party_list : Int32) (v_p1_party_told : Int32) (v_p1_party_kinds : Nat → Int32) (v_p1_party_costs : Nat → Int32) (v_p1_party_terms : Nat → Int64) (v_p1_party_known : Nat → Int32) (v_p1_kept_size : Int32) (v_p1_kept_list : Int32) (v_p1_kept_told : Int32) (v_p1_kept_kinds : Nat → Int32) (v_p1_kept_costs : Nat → Int32) (v_p1_kept_terms : Nat → Int64) (v_p1_kept_known : Nat → Int32) (v_p1_tape_length : Int32) (v_p1_tape_place : Int32) (v_p1_tape_fault : Int32) (v_p1_tape_teller : Int32) (v_p1_tape_word : Int32) (v_p1_tape_bytes : Nat → Int32) (v_p1_telephone_queue : Nat → Int32) (v_p1_telephone_callsTo : Nat → Int32) (v_p1_telephone_firstCalled : Nat → Int32) (v_p1_sheets0_bits : Int32) (v_p1_sheets0_size : Int32) (v_p1_sheets0_numbers : Nat → Int64) (v_p1_sheets1_bits : Int32) (v_p1_sheets1_size : Int32) (v_p1_sheets1_numbers : Nat → Int64) (v_p1_sheets2_bits : Int32) (v_p1_sheets2_size : Int32) (v_p1_sheets2_numbers : Nat → Int64) (v_p1_sheets3_bits : Int32) (v_p1_sheets3_size : Int32) (v_p1_sheets3_numbers : Nat → Int64) (v_p1_findings : Nat → Int32) (v_p2_isKept : Int32) (v_p2_taped : Int32) (v_p2_at : Int32) (v_p2_fault : Int32) (v_p2_laid : Int32) (v_p2_open : Int32) (v_p2_s : Nat → Int32) (v_p2_keptS : Nat → Int32) (v_p2_statuses : Nat → Int32) (v_p2_pile : Nat → Int32) (v_p2_tape : Nat → Int32) (v_p2_steps : Nat → Int32) (v_p2_wish : Nat → Int32) (v_p2_mark : Nat → Int32) (v_p2_bitsOf : Nat → Int32) (v_p2_sizeOf : Nat → Int32) (v_p2_number : Nat → Int64) (v_p2_moved : Nat → Int64) (x1 : Int32), I0 v_p1_isKept v_p1_party_size v_p1_party_list v_p1_party_told v_p1_party_kinds v_p1_party_costs v_p1_party_terms v_p1_party_known v_p1_kept_size v_p1_kept_list v_p1_kept_told v_p1_kept_kinds v_p1_kept_costs v_p1_kept_terms v_p1_kept_known v_p1_tape_length v_p1_tape_place v_p1_tape_fault v_p1_tape_teller v_p1_tape_word v_p1_tape_bytes v_p1_telephone_queue v_p1_telephone_callsTo v_p1_telephone_firstCalled v_p1_sheets0_bits v_p1_sheets0_size v_p1_sheets0_numbers v_p1_sheets1_bits v_p1_sheets1_size v_p1_sheets1_numbers v_p1_sheets2_bits v_p1_sheets2_size v_p1_sheets2_numbers v_p1_sheets3_bits v_p1_sheets3_size v_p1_sheets3_numbers v_p1_findings v_p2_isKept v_p2_taped v_p2_at v_p2_fault v_p2_laid v_p2_open v_p2_s v_p2_keptS v_p2_statuses v_p2_pile v_p2_tape v_p2_steps v_p2_wish v_p2_mark v_p2_bitsOf v_p2_sizeOf v_p2_number v_p2_moved → ∃ (r1 : Int32) (k1 : Int32 × (Nat → Int32) × (Nat → Int32)) (r2 : Int32) (k2 : (Nat → Int32) × (Nat → Int32) × (Nat → Int32)), fX4_call v_p1_party_size v_p1_party_list v_p1_party_kinds v_p1_party_terms v_p1_party_known v_p1_findings x1 = some (r1, k1) ∧ fX5_call v_p2_s v_p2_statuses v_p2_pile x1 = some (r2, k2) ∧ r1 = r2 ∧ I1 v_p1_isKept v_p1_party_size k1.1 v_p1_party_told v_p1_party_kinds v_p1_party_costs v_p1_party_terms k1.2.1 v_p1_kept_size v_p1_kept_list v_p1_kept_told v_p1_kept_kinds v_p1_kept_costs v_p1_kept_terms v_p1_kept_known v_p1_tape_length v_p1_tape_place v_p1_tape_fault v_p1_tape_teller v_p1_tape_word v_p1_tape_bytes v_p1_telephone_queue v_p1_telephone_callsTo v_p1_telephone_firstCalled v_p1_sheets0_bits v_p1_sheets0_size v_p1_sheets0_numbers v_p1_sheets1_bits v_p1_sheets1_size v_p1_sheets1_numbers v_p1_sheets2_bits v_p1_sheets2_size v_p1_sheets2_numbers v_p1_sheets3_bits v_p1_sheets3_size v_p1_sheets3_numbers k1.2.2 v_p2_isKept v_p2_taped v_p2_at v_p2_fault v_p2_laid v_p2_open k2.1 v_p2_keptS k2.2.1 k2.2.2 v_p2_tape v_p2_steps v_p2_wish v_p2_mark v_p2_bitsOf v_p2_sizeOf v_p2_number v_p2_moved
def S_calls (I0 I1 : LT) : Prop := ∀ (v_p1_isKept : Int32) (v_p1_party_size : Int32) (v_p1_party_list : Int32) (v_p1_party_told : Int32) (v_p1_party_kinds : Nat → Int32) (v_p1_party_costs : Nat → Int32) (v_p1_party_terms : Nat → Int64) (v_p1_party_known : Nat → Int32) (v_p1_kept_size : Int32) (v_p1_kept_list : Int32) (v_p1_kept_told : Int32) (v_p1_kept_kinds : Nat → Int32) (v_p1_kept_costs : Nat → Int32) (v_p1_kept_terms : Nat → Int64) (v_p1_kept_known : Nat → Int32) (v_p1_tape_length : Int32) (v_p1_tape_place : Int32) (v_p1_tape_fault : Int32) (v_p1_tape_teller : Int32) (v_p1_tape_word : Int32) (v_p1_tape_bytes : Nat → Int32) (v_p1_telephone_queue : Nat → Int32) (v_p1_telephone_callsTo : Nat → Int32) (v_p1_telephone_firstCalled : Nat → Int32) (v_p1_sheets0_bits : Int32) (v_p1_sheets0_size : Int32) (v_p1_sheets0_numbers : Nat → Int64) (v_p1_sheets1_bits : Int32) (v_p1_sheets1_size : Int32) (v_p1_sheets1_numbers : Nat → Int64) (v_p1_sheets2_bits : Int32) (v_p1_sheets2_size : Int32) (v_p1_sheets2_numbers : Nat → Int64) (v_p1_sheets3_bits : Int32) (v_p1_sheets3_size : Int32) (v_p1_sheets3_numbers : Nat → Int64) (v_p1_findings : Nat → Int32) (v_p2_isKept : Int32) (v_p2_taped : Int32) (v_p2_at : Int32) (v_p2_fault : Int32) (v_p2_laid : Int32) (v_p2_open : Int32) (v_p2_s : Nat → Int32) (v_p2_keptS : Nat → Int32) (v_p2_statuses : Nat → Int32) (v_p2_pile : Nat → Int32) (v_p2_tape : Nat → Int32) (v_p2_steps : Nat → Int32) (v_p2_wish : Nat → Int32) (v_p2_mark : Nat → Int32) (v_p2_bitsOf : Nat → Int32) (v_p2_sizeOf : Nat → Int32) (v_p2_number : Nat → Int64) (v_p2_moved : Nat → Int64) (x1 : Int32), I0 v_p1_isKept v_p1_party_size v_p1_party_list v_p1_party_told v_p1_party_kinds v_p1_party_costs v_p1_party_terms v_p1_party_known v_p1_kept_size v_p1_kept_list v_p1_kept_told v_p1_kept_kinds v_p1_kept_costs v_p1_kept_terms v_p1_kept_known v_p1_tape_length v_p1_tape_place v_p1_tape_fault v_p1_tape_teller v_p1_tape_word v_p1_tape_bytes v_p1_telephone_queue v_p1_telephone_callsTo v_p1_telephone_firstCalled v_p1_sheets0_bits v_p1_sheets0_size v_p1_sheets0_numbers v_p1_sheets1_bits v_p1_sheets1_size v_p1_sheets1_numbers v_p1_sheets2_bits v_p1_sheets2_size v_p1_sheets2_numbers v_p1_sheets3_bits v_p1_sheets3_size v_p1_sheets3_numbers v_p1_findings v_p2_isKept v_p2_taped v_p2_at v_p2_fault v_p2_laid v_p2_open v_p2_s v_p2_keptS v_p2_statuses v_p2_pile v_p2_tape v_p2_steps v_p2_wish v_p2_mark v_p2_bitsOf v_p2_sizeOf v_p2_number v_p2_moved → ∃ (r1 : Int32) (k1 : Int32 × (Nat → Int32) × (Nat → Int32)) (r2 : Int32) (k2 : (Nat → Int32) × (Nat → Int32) × (Nat → Int32)), fX4_calls v_p1_party_size v_p1_party_list v_p1_party_kinds v_p1_party_terms v_p1_party_known v_p1_findings x1 = some (r1, k1) ∧ fX5_calls v_p2_s v_p2_statuses v_p2_pile x1 = some (r2, k2) ∧ r1 = r2 ∧ I1 v_p1_isKept v_p1_party_size k1.1 v_p1_party_told v_p1_party_kinds v_p1_party_costs v_p1_party_terms k1.2.1 v_p1_kept_size v_p1_kept_list v_p1_kept_told v_p1_kept_kinds v_p1_kept_costs v_p1_kept_terms v_p1_kept_known v_p1_tape_length v_p1_tape_place v_p1_tape_fault v_p1_tape_teller v_p1_tape_word v_p1_tape_bytes v_p1_telephone_queue v_p1_telephone_callsTo v_p1_telephone_firstCalled v_p1_sheets0_bits v_p1_sheets0_size v_p1_sheets0_numbers v_p1_sheets1_bits v_p1_sheets1_size v_p1_sheets1_numbers v_p1_sheets2_bits v_p1_sheets2_size v_p1_sheets2_numbers v_p1_sheets3_bits v_p1_sheets3_size v_p1_sheets3_numbers k1.2.2 v_p2_isKept v_p2_taped v_p2_at v_p2_fault v_p2_laid v_p2_open k2.1 v_p2_keptS k2.2.1 k2.2.2 v_p2_tape v_p2_steps v_p2_wish v_p2_mark v_p2_bitsOf v_p2_sizeOf v_p2_number v_p2_moved
def S_rounds (I0 I1 : LT) : Prop := ∀ (v_p1_isKept : Int32) (v_p1_party_size : Int32) (v_p1_party_list : Int32) (v_p1_party_told : Int32) (v_p1_party_kinds : Nat → Int32) (v_p1_party_costs : Nat → Int32) (v_p1_party_terms : Nat → Int64) (v_p1_party_known : Nat → Int32) (v_p1_kept_size : Int32) (v_p1_kept_list : Int32) (v_p1_kept_told : Int32) (v_p1_kept_kinds : Nat → Int32) (v_p1_kept_costs : Nat → Int32) (v_p1_kept_terms : Nat → Int64) (v_p1_kept_known : Nat → Int32) (v_p1_tape_length : Int32) (v_p1_tape_place : Int32) (v_p1_tape_fault : Int32) (v_p1_tape_teller : Int32) (v_p1_tape_word : Int32) (v_p1_tape_bytes : Nat → Int32) (v_p1_telephone_queue : Nat → Int32) (v_p1_telephone_callsTo : Nat → Int32) (v_p1_telephone_firstCalled : Nat → Int32) (v_p1_sheets0_bits : Int32) (v_p1_sheets0_size : Int32) (v_p1_sheets0_numbers : Nat → Int64) (v_p1_sheets1_bits : Int32) (v_p1_sheets1_size : Int32) (v_p1_sheets1_numbers : Nat → Int64) (v_p1_sheets2_bits : Int32) (v_p1_sheets2_size : Int32) (v_p1_sheets2_numbers : Nat → Int64) (v_p1_sheets3_bits : Int32) (v_p1_sheets3_size : Int32) (v_p1_sheets3_numbers : Nat → Int64) (v_p1_findings : Nat → Int32) (v_p2_isKept : Int32) (v_p2_taped : Int32) (v_p2_at : Int32) (v_p2_fault : Int32) (v_p2_laid : Int32) (v_p2_open : Int32) (v_p2_s : Nat → Int32) (v_p2_keptS : Nat → Int32) (v_p2_statuses : Nat → Int32) (v_p2_pile : Nat → Int32) (v_p2_tape : Nat → Int32) (v_p2_steps : Nat → Int32) (v_p2_wish : Nat → Int32) (v_p2_mark : Nat → Int32) (v_p2_bitsOf : Nat → Int32) (v_p2_sizeOf : Nat → Int32) (v_p2_number : Nat → Int64) (v_p2_moved : Nat → Int64) (x1 : Int32), I0 v_p1_isKept v_p1_party_size v_p1_party_list v_p1_party_told v_p1_party_kinds v_p1_party_costs v_p1_party_terms v_p1_party_known v_p1_kept_size v_p1_kept_list v_p1_kept_told v_p1_kept_kinds v_p1_kept_costs v_p1_kept_terms v_p1_kept_known v_p1_tape_length v_p1_tape_place v_p1_tape_fault v_p1_tape_teller v_p1_tape_word v_p1_tape_bytes v_p1_telephone_queue v_p1_telephone_callsTo v_p1_telephone_firstCalled v_p1_sheets0_bits v_p1_sheets0_size v_p1_sheets0_numbers v_p1_sheets1_bits v_p1_sheets1_size v_p1_sheets1_numbers v_p1_sheets2_bits v_p1_sheets2_size v_p1_sheets2_numbers v_p1_sheets3_bits v_p1_sheets3_size v_p1_sheets3_numbers v_p1_findings v_p2_isKept v_p2_taped v_p2_at v_p2_fault v_p2_laid v_p2_open v_p2_s v_p2_keptS v_p2_statuses v_p2_pile v_p2_tape v_p2_steps v_p2_wish v_p2_mark v_p2_bitsOf v_p2_sizeOf v_p2_number v_p2_moved → ∃ (r1 : Int32) (k1 : Int32 × (Nat → Int32) × (Nat → Int32)) (r2 : Int32) (k2 : (Nat → Int32) × (Nat → Int32) × (Nat → Int32)), fX4_rounds v_p1_party_size v_p1_party_list v_p1_party_kinds v_p1_party_terms v_p1_party_known v_p1_findings x1 = some (r1, k1) ∧ fX5_rounds v_p2_s v_p2_statuses v_p2_pile x1 = some (r2, k2) ∧ r1 = r2 ∧ I1 v_p1_isKept v_p1_party_size k1.1 v_p1_party_told v_p1_party_kinds v_p1_party_costs v_p1_party_terms k1.2.1 v_p1_kept_size v_p1_kept_list v_p1_kept_told v_p1_kept_kinds v_p1_kept_costs v_p1_kept_terms v_p1_kept_known v_p1_tape_length v_p1_tape_place v_p1_tape_fault v_p1_tape_teller v_p1_tape_word v_p1_tape_bytes v_p1_telephone_queue v_p1_telephone_callsTo v_p1_telephone_firstCalled v_p1_sheets0_bits v_p1_sheets0_size v_p1_sheets0_numbers v_p1_sheets1_bits v_p1_sheets1_size v_p1_sheets1_numbers v_p1_sheets2_bits v_p1_sheets2_size v_p1_sheets2_numbers v_p1_sheets3_bits v_p1_sheets3_size v_p1_sheets3_numbers k1.2.2 v_p2_isKept v_p2_taped v_p2_at v_p2_fault v_p2_laid v_p2_open k2.1 v_p2_keptS k2.2.1 k2.2.2 v_p2_tape v_p2_steps v_p2_wish v_p2_mark v_p2_bitsOf v_p2_sizeOf v_p2_number v_p2_moved
def S_on (I0 I1 : LT) : Prop := ∀ (v_p1_isKept : Int32) (v_p1_party_size : Int32) (v_p1_party_list : Int32) (v_p1_party_told : Int32) (v_p1_party_kinds : Nat → Int32) (v_p1_party_costs : Nat → Int32) (v_p1_party_terms : Nat → Int64) (v_p1_party_known : Nat → Int32) (v_p1_kept_size : Int32) (v_p1_kept_list : Int32) (v_p1_kept_told : Int32) (v_p1_kept_kinds : Nat → Int32) (v_p1_kept_costs : Nat → Int32) (v_p1_kept_terms : Nat → Int64) (v_p1_kept_known : Nat → Int32) (v_p1_tape_length : Int32) (v_p1_tape_place : Int32) (v_p1_tape_fault : Int32) (v_p1_tape_teller : Int32) (v_p1_tape_word : Int32) (v_p1_tape_bytes : Nat → Int32) (v_p1_telephone_queue : Nat → Int32) (v_p1_telephone_callsTo : Nat → Int32) (v_p1_telephone_firstCalled : Nat → Int32) (v_p1_sheets0_bits : Int32) (v_p1_sheets0_size : Int32) (v_p1_sheets0_numbers : Nat → Int64) (v_p1_sheets1_bits : Int32) (v_p1_sheets1_size : Int32) (v_p1_sheets1_numbers : Nat → Int64) (v_p1_sheets2_bits : Int32) (v_p1_sheets2_size : Int32) (v_p1_sheets2_numbers : Nat → Int64) (v_p1_sheets3_bits : Int32) (v_p1_sheets3_size : Int32) (v_p1_sheets3_numbers : Nat → Int64) (v_p1_findings : Nat → Int32) (v_p2_isKept : Int32) (v_p2_taped : Int32) (v_p2_at : Int32) (v_p2_fault : Int32) (v_p2_laid : Int32) (v_p2_open : Int32) (v_p2_s : Nat → Int32) (v_p2_keptS : Nat → Int32) (v_p2_statuses : Nat → Int32) (v_p2_pile : Nat → Int32) (v_p2_tape : Nat → Int32) (v_p2_steps : Nat → Int32) (v_p2_wish : Nat → Int32) (v_p2_mark : Nat → Int32) (v_p2_bitsOf : Nat → Int32) (v_p2_sizeOf : Nat → Int32) (v_p2_number : Nat → Int64) (v_p2_moved : Nat → Int64) (x1 : Int32), I0 v_p1_isKept v_p1_party_size v_p1_party_list v_p1_party_told v_p1_party_kinds v_p1_party_costs v_p1_party_terms v_p1_party_known v_p1_kept_size v_p1_kept_list v_p1_kept_told v_p1_kept_kinds v_p1_kept_costs v_p1_kept_terms v_p1_kept_known v_p1_tape_length v_p1_tape_place v_p1_tape_fault v_p1_tape_teller v_p1_tape_word v_p1_tape_bytes v_p1_telephone_queue v_p1_telephone_callsTo v_p1_telephone_firstCalled v_p1_sheets0_bits v_p1_sheets0_size v_p1_sheets0_numbers v_p1_sheets1_bits v_p1_sheets1_size v_p1_sheets1_numbers v_p1_sheets2_bits v_p1_sheets2_size v_p1_sheets2_numbers v_p1_sheets3_bits v_p1_sheets3_size v_p1_sheets3_numbers v_p1_findings v_p2_isKept v_p2_taped v_p2_at v_p2_fault v_p2_laid v_p2_open v_p2_s v_p2_keptS v_p2_statuses v_p2_pile v_p2_tape v_p2_steps v_p2_wish v_p2_mark v_p2_bitsOf v_p2_sizeOf v_p2_number v_p2_moved → ∃ (r1 : Int32) (k1 : (Nat → Int32) × (Nat → Int32)) (r2 : Int32) (k2 : (Nat → Int32) × (Nat → Int32)), fX4_on v_p1_party_size v_p1_party_list v_p1_party_kinds v_p1_party_terms v_p1_party_known v_p1_findings x1 = some (r1, k1) ∧ fX5_on v_p2_s v_p2_statuses v_p2_pile x1 = some (r2, k2) ∧ r1 = r2 ∧ I1 v_p1_isKept v_p1_party_size v_p1_party_list v_p1_party_told v_p1_party_kinds v_p1_party_costs v_p1_party_terms k1.1 v_p1_kept_size v_p1_kept_list v_p1_kept_told v_p1_kept_kinds v_p1_kept_costs v_p1_kept_terms v_p1_kept_known v_p1_tape_length v_p1_tape_place v_p1_tape_fault v_p1_tape_teller v_p1_tape_word v_p1_tape_bytes v_p1_telephone_queue v_p1_telephone_callsTo v_p1_telephone_firstCalled v_p1_sheets0_bits v_p1_sheets0_size v_p1_sheets0_numbers v_p1_sheets1_bits v_p1_sheets1_size v_p1_sheets1_numbers v_p1_sheets2_bits v_p1_sheets2_size v_p1_sheets2_numbers v_p1_sheets3_bits v_p1_sheets3_size v_p1_sheets3_numbers k1.2 v_p2_isKept v_p2_taped v_p2_at v_p2_fault v_p2_laid v_p2_open v_p2_s v_p2_keptS k2.1 k2.2 v_p2_tape v_p2_steps v_p2_wish v_p2_mark v_p2_bitsOf v_p2_sizeOf v_p2_number v_p2_moved
def S_when (I0 I1 : LT) : Prop := ∀ (v_p1_isKept : Int32) (v_p1_party_size : Int32) (v_p1_party_list : Int32) (v_p1_party_told : Int32) (v_p1_party_kinds : Nat → Int32) (v_p1_party_costs : Nat → Int32) (v_p1_party_terms : Nat → Int64) (v_p1_party_known : Nat → Int32) (v_p1_kept_size : Int32) (v_p1_kept_list : Int32) (v_p1_kept_told : Int32) (v_p1_kept_kinds : Nat → Int32) (v_p1_kept_costs : Nat → Int32) (v_p1_kept_terms : Nat → Int64) (v_p1_kept_known : Nat → Int32) (v_p1_tape_length : Int32) (v_p1_tape_place : Int32) (v_p1_tape_fault : Int32) (v_p1_tape_teller : Int32) (v_p1_tape_word : Int32) (v_p1_tape_bytes : Nat → Int32) (v_p1_telephone_queue : Nat → Int32) (v_p1_telephone_callsTo : Nat → Int32) (v_p1_telephone_firstCalled : Nat → Int32) (v_p1_sheets0_bits : Int32) (v_p1_sheets0_size : Int32) (v_p1_sheets0_numbers : Nat → Int64) (v_p1_sheets1_bits : Int32) (v_p1_sheets1_size : Int32) (v_p1_sheets1_numbers : Nat → Int64) (v_p1_sheets2_bits : Int32) (v_p1_sheets2_size : Int32) (v_p1_sheets2_numbers : Nat → Int64) (v_p1_sheets3_bits : Int32) (v_p1_sheets3_size : Int32) (v_p1_sheets3_numbers : Nat → Int64) (v_p1_findings : Nat → Int32) (v_p2_isKept : Int32) (v_p2_taped : Int32) (v_p2_at : Int32) (v_p2_fault : Int32) (v_p2_laid : Int32) (v_p2_open : Int32) (v_p2_s : Nat → Int32) (v_p2_keptS : Nat → Int32) (v_p2_statuses : Nat → Int32) (v_p2_pile : Nat → Int32) (v_p2_tape : Nat → Int32) (v_p2_steps : Nat → Int32) (v_p2_wish : Nat → Int32) (v_p2_mark : Nat → Int32) (v_p2_bitsOf : Nat → Int32) (v_p2_sizeOf : Nat → Int32) (v_p2_number : Nat → Int64) (v_p2_moved : Nat → Int64), I0 v_p1_isKept v_p1_party_size v_p1_party_list v_p1_party_told v_p1_party_kinds v_p1_party_costs v_p1_party_terms v_p1_party_known v_p1_kept_size v_p1_kept_list v_p1_kept_told v_p1_kept_kinds v_p1_kept_costs v_p1_kept_terms v_p1_kept_known v_p1_tape_length v_p1_tape_place v_p1_tape_fault v_p1_tape_teller v_p1_tape_word v_p1_tape_bytes v_p1_telephone_queue v_p1_telephone_callsTo v_p1_telephone_firstCalled v_p1_sheets0_bits v_p1_sheets0_size v_p1_sheets0_numbers v_p1_sheets1_bits v_p1_sheets1_size v_p1_sheets1_numbers v_p1_sheets2_bits v_p1_sheets2_size v_p1_sheets2_numbers v_p1_sheets3_bits v_p1_sheets3_size v_p1_sheets3_numbers v_p1_findings v_p2_isKept v_p2_taped v_p2_at v_p2_fault v_p2_laid v_p2_open v_p2_s v_p2_keptS v_p2_statuses v_p2_pile v_p2_tape v_p2_steps v_p2_wish v_p2_mark v_p2_bitsOf v_p2_sizeOf v_p2_number v_p2_moved → ∃ (r1 : Int32) (k1 : (Nat → Int32) × (Nat → Int32)) (r2 : Int32) (k2 : (Nat → Int32) × (Nat → Int32) × (Nat → Int32)), fX4_when v_p1_party_size v_p1_party_list v_p1_party_kinds v_p1_party_terms v_p1_party_known v_p1_findings = some (r1, k1) ∧ fX5_when v_p2_s v_p2_statuses v_p2_pile v_p2_wish = some (r2, k2) ∧ r1 = r2 ∧ I1 v_p1_isKept v_p1_party_size v_p1_party_list v_p1_party_told v_p1_party_kinds v_p1_party_costs v_p1_party_terms k1.1 v_p1_kept_size v_p1_kept_list v_p1_kept_told v_p1_kept_kinds v_p1_kept_costs v_p1_kept_terms v_p1_kept_known v_p1_tape_length v_p1_tape_place v_p1_tape_fault v_p1_tape_teller v_p1_tape_word v_p1_tape_bytes v_p1_telephone_queue v_p1_telephone_callsTo v_p1_telephone_firstCalled v_p1_sheets0_bits v_p1_sheets0_size v_p1_sheets0_numbers v_p1_sheets1_bits v_p1_sheets1_size v_p1_sheets1_numbers v_p1_sheets2_bits v_p1_sheets2_size v_p1_sheets2_numbers v_p1_sheets3_bits v_p1_sheets3_size v_p1_sheets3_numbers k1.2 v_p2_isKept v_p2_taped v_p2_at v_p2_fault v_p2_laid v_p2_open v_p2_s v_p2_keptS k2.1 k2.2.1 v_p2_tape v_p2_steps k2.2.2 v_p2_mark v_p2_bitsOf v_p2_sizeOf v_p2_number v_p2_moved
def S_ring (I0 I1 : LT) : Prop := ∀ (v_p1_isKept : Int32) (v_p1_party_size : Int32) (v_p1_party_list : Int32) (v_p1_party_told : Int32) (v_p1_party_kinds : Nat → Int32) (v_p1_party_costs : Nat → Int32) (v_p1_party_terms : Nat → Int64) (v_p1_party_known : Nat → Int32) (v_p1_kept_size : Int32) (v_p1_kept_list : Int32) (v_p1_kept_told : Int32) (v_p1_kept_kinds : Nat → Int32) (v_p1_kept_costs : Nat → Int32) (v_p1_kept_terms : Nat → Int64) (v_p1_kept_known : Nat → Int32) (v_p1_tape_length : Int32) (v_p1_tape_place : Int32) (v_p1_tape_fault : Int32) (v_p1_tape_teller : Int32) (v_p1_tape_word : Int32) (v_p1_tape_bytes : Nat → Int32) (v_p1_telephone_queue : Nat → Int32) (v_p1_telephone_callsTo : Nat → Int32) (v_p1_telephone_firstCalled : Nat → Int32) (v_p1_sheets0_bits : Int32) (v_p1_sheets0_size : Int32) (v_p1_sheets0_numbers : Nat → Int64) (v_p1_sheets1_bits : Int32) (v_p1_sheets1_size : Int32) (v_p1_sheets1_numbers : Nat → Int64) (v_p1_sheets2_bits : Int32) (v_p1_sheets2_size : Int32) (v_p1_sheets2_numbers : Nat → Int64) (v_p1_sheets3_bits : Int32) (v_p1_sheets3_size : Int32) (v_p1_sheets3_numbers : Nat → Int64) (v_p1_findings : Nat → Int32) (v_p2_isKept : Int32) (v_p2_taped : Int32) (v_p2_at : Int32) (v_p2_fault : Int32) (v_p2_laid : Int32) (v_p2_open : Int32) (v_p2_s : Nat → Int32) (v_p2_keptS : Nat → Int32) (v_p2_statuses : Nat → Int32) (v_p2_pile : Nat → Int32) (v_p2_tape : Nat → Int32) (v_p2_steps : Nat → Int32) (v_p2_wish : Nat → Int32) (v_p2_mark : Nat → Int32) (v_p2_bitsOf : Nat → Int32) (v_p2_sizeOf : Nat → Int32) (v_p2_number : Nat → Int64) (v_p2_moved : Nat → Int64) (x1 : Int32), I0 v_p1_isKept v_p1_party_size v_p1_party_list v_p1_party_told v_p1_party_kinds v_p1_party_costs v_p1_party_terms v_p1_party_known v_p1_kept_size v_p1_kept_list v_p1_kept_told v_p1_kept_kinds v_p1_kept_costs v_p1_kept_terms v_p1_kept_known v_p1_tape_length v_p1_tape_place v_p1_tape_fault v_p1_tape_teller v_p1_tape_word v_p1_tape_bytes v_p1_telephone_queue v_p1_telephone_callsTo v_p1_telephone_firstCalled v_p1_sheets0_bits v_p1_sheets0_size v_p1_sheets0_numbers v_p1_sheets1_bits v_p1_sheets1_size v_p1_sheets1_numbers v_p1_sheets2_bits v_p1_sheets2_size v_p1_sheets2_numbers v_p1_sheets3_bits v_p1_sheets3_size v_p1_sheets3_numbers v_p1_findings v_p2_isKept v_p2_taped v_p2_at v_p2_fault v_p2_laid v_p2_open v_p2_s v_p2_keptS v_p2_statuses v_p2_pile v_p2_tape v_p2_steps v_p2_wish v_p2_mark v_p2_bitsOf v_p2_sizeOf v_p2_number v_p2_moved → ∃ (r1 : Int32) (k1 : (Nat → Int32) × (Nat → Int32)) (r2 : Int32) (k2 : (Nat → Int32) × (Nat → Int32) × (Nat → Int32) × (Nat → Int32)), fX4_ring v_p1_party_size v_p1_party_list v_p1_party_kinds v_p1_party_terms v_p1_party_known v_p1_findings x1 = some (r1, k1) ∧ fX5_ring v_p2_s v_p2_statuses v_p2_pile v_p2_wish v_p2_mark x1 = some (r2, k2) ∧ r1 = r2 ∧ I1 v_p1_isKept v_p1_party_size v_p1_party_list v_p1_party_told v_p1_party_kinds v_p1_party_costs v_p1_party_terms k1.1 v_p1_kept_size v_p1_kept_list v_p1_kept_told v_p1_kept_kinds v_p1_kept_costs v_p1_kept_terms v_p1_kept_known v_p1_tape_length v_p1_tape_place v_p1_tape_fault v_p1_tape_teller v_p1_tape_word v_p1_tape_bytes v_p1_telephone_queue v_p1_telephone_callsTo v_p1_telephone_firstCalled v_p1_sheets0_bits v_p1_sheets0_size v_p1_sheets0_numbers v_p1_sheets1_bits v_p1_sheets1_size v_p1_sheets1_numbers v_p1_sheets2_bits v_p1_sheets2_size v_p1_sheets2_numbers v_p1_sheets3_bits v_p1_sheets3_size v_p1_sheets3_numbers k1.2 v_p2_isKept v_p2_taped v_p2_at v_p2_fault v_p2_laid v_p2_open v_p2_s v_p2_keptS k2.1 k2.2.1 v_p2_tape v_p2_steps k2.2.2.1 k2.2.2.2 v_p2_bitsOf v_p2_sizeOf v_p2_number v_p2_moved
def S_fewest (I0 I1 : LT) : Prop := ∀ (v_p1_isKept : Int32) (v_p1_party_size : Int32) (v_p1_party_list : Int32) (v_p1_party_told : Int32) (v_p1_party_kinds : Nat → Int32) (v_p1_party_costs : Nat → Int32) (v_p1_party_terms : Nat → Int64) (v_p1_party_known : Nat → Int32) (v_p1_kept_size : Int32) (v_p1_kept_list : Int32) (v_p1_kept_told : Int32) (v_p1_kept_kinds : Nat → Int32) (v_p1_kept_costs : Nat → Int32) (v_p1_kept_terms : Nat → Int64) (v_p1_kept_known : Nat → Int32) (v_p1_tape_length : Int32) (v_p1_tape_place : Int32) (v_p1_tape_fault : Int32) (v_p1_tape_teller : Int32) (v_p1_tape_word : Int32) (v_p1_tape_bytes : Nat → Int32) (v_p1_telephone_queue : Nat → Int32) (v_p1_telephone_callsTo : Nat → Int32) (v_p1_telephone_firstCalled : Nat → Int32) (v_p1_sheets0_bits : Int32) (v_p1_sheets0_size : Int32) (v_p1_sheets0_numbers : Nat → Int64) (v_p1_sheets1_bits : Int32) (v_p1_sheets1_size : Int32) (v_p1_sheets1_numbers : Nat → Int64) (v_p1_sheets2_bits : Int32) (v_p1_sheets2_size : Int32) (v_p1_sheets2_numbers : Nat → Int64) (v_p1_sheets3_bits : Int32) (v_p1_sheets3_size : Int32) (v_p1_sheets3_numbers : Nat → Int64) (v_p1_findings : Nat → Int32) (v_p2_isKept : Int32) (v_p2_taped : Int32) (v_p2_at : Int32) (v_p2_fault : Int32) (v_p2_laid : Int32) (v_p2_open : Int32) (v_p2_s : Nat → Int32) (v_p2_keptS : Nat → Int32) (v_p2_statuses : Nat → Int32) (v_p2_pile : Nat → Int32) (v_p2_tape : Nat → Int32) (v_p2_steps : Nat → Int32) (v_p2_wish : Nat → Int32) (v_p2_mark : Nat → Int32) (v_p2_bitsOf : Nat → Int32) (v_p2_sizeOf : Nat → Int32) (v_p2_number : Nat → Int64) (v_p2_moved : Nat → Int64), I0 v_p1_isKept v_p1_party_size v_p1_party_list v_p1_party_told v_p1_party_kinds v_p1_party_costs v_p1_party_terms v_p1_party_known v_p1_kept_size v_p1_kept_list v_p1_kept_told v_p1_kept_kinds v_p1_kept_costs v_p1_kept_terms v_p1_kept_known v_p1_tape_length v_p1_tape_place v_p1_tape_fault v_p1_tape_teller v_p1_tape_word v_p1_tape_bytes v_p1_telephone_queue v_p1_telephone_callsTo v_p1_telephone_firstCalled v_p1_sheets0_bits v_p1_sheets0_size v_p1_sheets0_numbers v_p1_sheets1_bits v_p1_sheets1_size v_p1_sheets1_numbers v_p1_sheets2_bits v_p1_sheets2_size v_p1_sheets2_numbers v_p1_sheets3_bits v_p1_sheets3_size v_p1_sheets3_numbers v_p1_findings v_p2_isKept v_p2_taped v_p2_at v_p2_fault v_p2_laid v_p2_open v_p2_s v_p2_keptS v_p2_statuses v_p2_pile v_p2_tape v_p2_steps v_p2_wish v_p2_mark v_p2_bitsOf v_p2_sizeOf v_p2_number v_p2_moved → ∃ (r1 : Int32) (k1 : (Nat → Int32) × (Nat → Int32) × (Nat → Int32) × (Nat → Int32) × (Nat → Int32)) (r2 : Int32) (k2 : (Nat → Int32) × (Nat → Int32) × (Nat → Int32)), fX4_fewest v_p1_party_size v_p1_party_list v_p1_party_kinds v_p1_party_terms v_p1_party_known v_p1_telephone_queue v_p1_telephone_callsTo v_p1_telephone_firstCalled v_p1_findings = some (r1, k1) ∧ fX5_fewest v_p2_s v_p2_statuses v_p2_pile v_p2_mark = some (r2, k2) ∧ r1 = r2 ∧ I1 v_p1_isKept v_p1_party_size v_p1_party_list v_p1_party_told v_p1_party_kinds v_p1_party_costs v_p1_party_terms k1.1 v_p1_kept_size v_p1_kept_list v_p1_kept_told v_p1_kept_kinds v_p1_kept_costs v_p1_kept_terms v_p1_kept_known v_p1_tape_length v_p1_tape_place v_p1_tape_fault v_p1_tape_teller v_p1_tape_word v_p1_tape_bytes k1.2.1 k1.2.2.1 k1.2.2.2.1 v_p1_sheets0_bits v_p1_sheets0_size v_p1_sheets0_numbers v_p1_sheets1_bits v_p1_sheets1_size v_p1_sheets1_numbers v_p1_sheets2_bits v_p1_sheets2_size v_p1_sheets2_numbers v_p1_sheets3_bits v_p1_sheets3_size v_p1_sheets3_numbers k1.2.2.2.2 v_p2_isKept v_p2_taped v_p2_at v_p2_fault v_p2_laid v_p2_open v_p2_s v_p2_keptS k2.1 k2.2.1 v_p2_tape v_p2_steps v_p2_wish k2.2.2 v_p2_bitsOf v_p2_sizeOf v_p2_number v_p2_moved
def S_first (I0 I1 : LT) : Prop := ∀ (v_p1_isKept : Int32) (v_p1_party_size : Int32) (v_p1_party_list : Int32) (v_p1_party_told : Int32) (v_p1_party_kinds : Nat → Int32) (v_p1_party_costs : Nat → Int32) (v_p1_party_terms : Nat → Int64) (v_p1_party_known : Nat → Int32) (v_p1_kept_size : Int32) (v_p1_kept_list : Int32) (v_p1_kept_told : Int32) (v_p1_kept_kinds : Nat → Int32) (v_p1_kept_costs : Nat → Int32) (v_p1_kept_terms : Nat → Int64) (v_p1_kept_known : Nat → Int32) (v_p1_tape_length : Int32) (v_p1_tape_place : Int32) (v_p1_tape_fault : Int32) (v_p1_tape_teller : Int32) (v_p1_tape_word : Int32) (v_p1_tape_bytes : Nat → Int32) (v_p1_telephone_queue : Nat → Int32) (v_p1_telephone_callsTo : Nat → Int32) (v_p1_telephone_firstCalled : Nat → Int32) (v_p1_sheets0_bits : Int32) (v_p1_sheets0_size : Int32) (v_p1_sheets0_numbers : Nat → Int64) (v_p1_sheets1_bits : Int32) (v_p1_sheets1_size : Int32) (v_p1_sheets1_numbers : Nat → Int64) (v_p1_sheets2_bits : Int32) (v_p1_sheets2_size : Int32) (v_p1_sheets2_numbers : Nat → Int64) (v_p1_sheets3_bits : Int32) (v_p1_sheets3_size : Int32) (v_p1_sheets3_numbers : Nat → Int64) (v_p1_findings : Nat → Int32) (v_p2_isKept : Int32) (v_p2_taped : Int32) (v_p2_at : Int32) (v_p2_fault : Int32) (v_p2_laid : Int32) (v_p2_open : Int32) (v_p2_s : Nat → Int32) (v_p2_keptS : Nat → Int32) (v_p2_statuses : Nat → Int32) (v_p2_pile : Nat → Int32) (v_p2_tape : Nat → Int32) (v_p2_steps : Nat → Int32) (v_p2_wish : Nat → Int32) (v_p2_mark : Nat → Int32) (v_p2_bitsOf : Nat → Int32) (v_p2_sizeOf : Nat → Int32) (v_p2_number : Nat → Int64) (v_p2_moved : Nat → Int64), I0 v_p1_isKept v_p1_party_size v_p1_party_list v_p1_party_told v_p1_party_kinds v_p1_party_costs v_p1_party_terms v_p1_party_known v_p1_kept_size v_p1_kept_list v_p1_kept_told v_p1_kept_kinds v_p1_kept_costs v_p1_kept_terms v_p1_kept_known v_p1_tape_length v_p1_tape_place v_p1_tape_fault v_p1_tape_teller v_p1_tape_word v_p1_tape_bytes v_p1_telephone_queue v_p1_telephone_callsTo v_p1_telephone_firstCalled v_p1_sheets0_bits v_p1_sheets0_size v_p1_sheets0_numbers v_p1_sheets1_bits v_p1_sheets1_size v_p1_sheets1_numbers v_p1_sheets2_bits v_p1_sheets2_size v_p1_sheets2_numbers v_p1_sheets3_bits v_p1_sheets3_size v_p1_sheets3_numbers v_p1_findings v_p2_isKept v_p2_taped v_p2_at v_p2_fault v_p2_laid v_p2_open v_p2_s v_p2_keptS v_p2_statuses v_p2_pile v_p2_tape v_p2_steps v_p2_wish v_p2_mark v_p2_bitsOf v_p2_sizeOf v_p2_number v_p2_moved → ∃ (r1 : Int32) (k1 : (Nat → Int32) × (Nat → Int32) × (Nat → Int32) × (Nat → Int32) × (Nat → Int32)) (r2 : Int32) (k2 : (Nat → Int32) × (Nat → Int32) × (Nat → Int32)), fX4_first v_p1_party_size v_p1_party_list v_p1_party_kinds v_p1_party_terms v_p1_party_known v_p1_telephone_queue v_p1_telephone_callsTo v_p1_telephone_firstCalled v_p1_findings = some (r1, k1) ∧ fX5_first v_p2_s v_p2_statuses v_p2_pile v_p2_mark = some (r2, k2) ∧ r1 = r2 ∧ I1 v_p1_isKept v_p1_party_size v_p1_party_list v_p1_party_told v_p1_party_kinds v_p1_party_costs v_p1_party_terms k1.1 v_p1_kept_size v_p1_kept_list v_p1_kept_told v_p1_kept_kinds v_p1_kept_costs v_p1_kept_terms v_p1_kept_known v_p1_tape_length v_p1_tape_place v_p1_tape_fault v_p1_tape_teller v_p1_tape_word v_p1_tape_bytes k1.2.1 k1.2.2.1 k1.2.2.2.1 v_p1_sheets0_bits v_p1_sheets0_size v_p1_sheets0_numbers v_p1_sheets1_bits v_p1_sheets1_size v_p1_sheets1_numbers v_p1_sheets2_bits v_p1_sheets2_size v_p1_sheets2_numbers v_p1_sheets3_bits v_p1_sheets3_size v_p1_sheets3_numbers k1.2.2.2.2 v_p2_isKept v_p2_taped v_p2_at v_p2_fault v_p2_laid v_p2_open v_p2_s v_p2_keptS k2.1 k2.2.1 v_p2_tape v_p2_steps v_p2_wish k2.2.2 v_p2_bitsOf v_p2_sizeOf v_p2_number v_p2_moved
def S_settled (I0 I1 : LT) : Prop := ∀ (v_p1_isKept : Int32) (v_p1_party_size : Int32) (v_p1_party_list : Int32) (v_p1_party_told : Int32) (v_p1_party_kinds : Nat → Int32) (v_p1_party_costs : Nat → Int32) (v_p1_party_terms : Nat → Int64) (v_p1_party_known : Nat → Int32) (v_p1_kept_size : Int32) (v_p1_kept_list : Int32) (v_p1_kept_told : Int32) (v_p1_kept_kinds : Nat → Int32) (v_p1_kept_costs : Nat → Int32) (v_p1_kept_terms : Nat → Int64) (v_p1_kept_known : Nat → Int32) (v_p1_tape_length : Int32) (v_p1_tape_place : Int32) (v_p1_tape_fault : Int32) (v_p1_tape_teller : Int32) (v_p1_tape_word : Int32) (v_p1_tape_bytes : Nat → Int32) (v_p1_telephone_queue : Nat → Int32) (v_p1_telephone_callsTo : Nat → Int32) (v_p1_telephone_firstCalled : Nat → Int32) (v_p1_sheets0_bits : Int32) (v_p1_sheets0_size : Int32) (v_p1_sheets0_numbers : Nat → Int64) (v_p1_sheets1_bits : Int32) (v_p1_sheets1_size : Int32) (v_p1_sheets1_numbers : Nat → Int64) (v_p1_sheets2_bits : Int32) (v_p1_sheets2_size : Int32) (v_p1_sheets2_numbers : Nat → Int64) (v_p1_sheets3_bits : Int32) (v_p1_sheets3_size : Int32) (v_p1_sheets3_numbers : Nat → Int64) (v_p1_findings : Nat → Int32) (v_p2_isKept : Int32) (v_p2_taped : Int32) (v_p2_at : Int32) (v_p2_fault : Int32) (v_p2_laid : Int32) (v_p2_open : Int32) (v_p2_s : Nat → Int32) (v_p2_keptS : Nat → Int32) (v_p2_statuses : Nat → Int32) (v_p2_pile : Nat → Int32) (v_p2_tape : Nat → Int32) (v_p2_steps : Nat → Int32) (v_p2_wish : Nat → Int32) (v_p2_mark : Nat → Int32) (v_p2_bitsOf : Nat → Int32) (v_p2_sizeOf : Nat → Int32) (v_p2_number : Nat → Int64) (v_p2_moved : Nat → Int64), I0 v_p1_isKept v_p1_party_size v_p1_party_list v_p1_party_told v_p1_party_kinds v_p1_party_costs v_p1_party_terms v_p1_party_known v_p1_kept_size v_p1_kept_list v_p1_kept_told v_p1_kept_kinds v_p1_kept_costs v_p1_kept_terms v_p1_kept_known v_p1_tape_length v_p1_tape_place v_p1_tape_fault v_p1_tape_teller v_p1_tape_word v_p1_tape_bytes v_p1_telephone_queue v_p1_telephone_callsTo v_p1_telephone_firstCalled v_p1_sheets0_bits v_p1_sheets0_size v_p1_sheets0_numbers v_p1_sheets1_bits v_p1_sheets1_size v_p1_sheets1_numbers v_p1_sheets2_bits v_p1_sheets2_size v_p1_sheets2_numbers v_p1_sheets3_bits v_p1_sheets3_size v_p1_sheets3_numbers v_p1_findings v_p2_isKept v_p2_taped v_p2_at v_p2_fault v_p2_laid v_p2_open v_p2_s v_p2_keptS v_p2_statuses v_p2_pile v_p2_tape v_p2_steps v_p2_wish v_p2_mark v_p2_bitsOf v_p2_sizeOf v_p2_number v_p2_moved → ∃ (r1 : Int32) (k1 : (Nat → Int32)) (r2 : Int32) (k2 : (Nat → Int32) × (Nat → Int32)), fX4_settled v_p1_party_size v_p1_party_kinds v_p1_party_terms v_p1_party_known = some (r1, k1) ∧ fX5_settled v_p2_s v_p2_pile v_p2_wish = some (r2, k2) ∧ r1 = r2 ∧ I1 v_p1_isKept v_p1_party_size v_p1_party_list v_p1_party_told v_p1_party_kinds v_p1_party_costs v_p1_party_terms k1 v_p1_kept_size v_p1_kept_list v_p1_kept_told v_p1_kept_kinds v_p1_kept_costs v_p1_kept_terms v_p1_kept_known v_p1_tape_length v_p1_tape_place v_p1_tape_fault v_p1_tape_teller v_p1_tape_word v_p1_tape_bytes v_p1_telephone_queue v_p1_telephone_callsTo v_p1_telephone_firstCalled v_p1_sheets0_bits v_p1_sheets0_size v_p1_sheets0_numbers v_p1_sheets1_bits v_p1_sheets1_size v_p1_sheets1_numbers v_p1_sheets2_bits v_p1_sheets2_size v_p1_sheets2_numbers v_p1_sheets3_bits v_p1_sheets3_size v_p1_sheets3_numbers v_p1_findings v_p2_isKept v_p2_taped v_p2_at v_p2_fault v_p2_laid v_p2_open v_p2_s v_p2_keptS v_p2_statuses k2.1 v_p2_tape v_p2_steps k2.2 v_p2_mark v_p2_bitsOf v_p2_sizeOf v_p2_number v_p2_moved
def S_ith (I0 I1 : LT) : Prop := ∀ (v_p1_isKept : Int32) (v_p1_party_size : Int32) (v_p1_party_list : Int32) (v_p1_party_told : Int32) (v_p1_party_kinds : Nat → Int32) (v_p1_party_costs : Nat → Int32) (v_p1_party_terms : Nat → Int64) (v_p1_party_known : Nat → Int32) (v_p1_kept_size : Int32) (v_p1_kept_list : Int32) (v_p1_kept_told : Int32) (v_p1_kept_kinds : Nat → Int32) (v_p1_kept_costs : Nat → Int32) (v_p1_kept_terms : Nat → Int64) (v_p1_kept_known : Nat → Int32) (v_p1_tape_length : Int32) (v_p1_tape_place : Int32) (v_p1_tape_fault : Int32) (v_p1_tape_teller : Int32) (v_p1_tape_word : Int32) (v_p1_tape_bytes : Nat → Int32) (v_p1_telephone_queue : Nat → Int32) (v_p1_telephone_callsTo : Nat → Int32) (v_p1_telephone_firstCalled : Nat → Int32) (v_p1_sheets0_bits : Int32) (v_p1_sheets0_size : Int32) (v_p1_sheets0_numbers : Nat → Int64) (v_p1_sheets1_bits : Int32) (v_p1_sheets1_size : Int32) (v_p1_sheets1_numbers : Nat → Int64) (v_p1_sheets2_bits : Int32) (v_p1_sheets2_size : Int32) (v_p1_sheets2_numbers : Nat → Int64) (v_p1_sheets3_bits : Int32) (v_p1_sheets3_size : Int32) (v_p1_sheets3_numbers : Nat → Int64) (v_p1_findings : Nat → Int32) (v_p2_isKept : Int32) (v_p2_taped : Int32) (v_p2_at : Int32) (v_p2_fault : Int32) (v_p2_laid : Int32) (v_p2_open : Int32) (v_p2_s : Nat → Int32) (v_p2_keptS : Nat → Int32) (v_p2_statuses : Nat → Int32) (v_p2_pile : Nat → Int32) (v_p2_tape : Nat → Int32) (v_p2_steps : Nat → Int32) (v_p2_wish : Nat → Int32) (v_p2_mark : Nat → Int32) (v_p2_bitsOf : Nat → Int32) (v_p2_sizeOf : Nat → Int32) (v_p2_number : Nat → Int64) (v_p2_moved : Nat → Int64) (x1 : Int32), I0 v_p1_isKept v_p1_party_size v_p1_party_list v_p1_party_told v_p1_party_kinds v_p1_party_costs v_p1_party_terms v_p1_party_known v_p1_kept_size v_p1_kept_list v_p1_kept_told v_p1_kept_kinds v_p1_kept_costs v_p1_kept_terms v_p1_kept_known v_p1_tape_length v_p1_tape_place v_p1_tape_fault v_p1_tape_teller v_p1_tape_word v_p1_tape_bytes v_p1_telephone_queue v_p1_telephone_callsTo v_p1_telephone_firstCalled v_p1_sheets0_bits v_p1_sheets0_size v_p1_sheets0_numbers v_p1_sheets1_bits v_p1_sheets1_size v_p1_sheets1_numbers v_p1_sheets2_bits v_p1_sheets2_size v_p1_sheets2_numbers v_p1_sheets3_bits v_p1_sheets3_size v_p1_sheets3_numbers v_p1_findings v_p2_isKept v_p2_taped v_p2_at v_p2_fault v_p2_laid v_p2_open v_p2_s v_p2_keptS v_p2_statuses v_p2_pile v_p2_tape v_p2_steps v_p2_wish v_p2_mark v_p2_bitsOf v_p2_sizeOf v_p2_number v_p2_moved → ∃ (r1 : Int32) (k1 : (Nat → Int32) × (Nat → Int32)) (r2 : Int32) (k2 : (Nat → Int32) × (Nat → Int32) × (Nat → Int32)), fX4_ith v_p1_party_size v_p1_party_kinds v_p1_party_terms v_p1_party_known v_p1_findings x1 = some (r1, k1) ∧ fX5_ith v_p2_s v_p2_statuses v_p2_pile v_p2_wish x1 = some (r2, k2) ∧ r1 = r2 ∧ I1 v_p1_isKept v_p1_party_size v_p1_party_list v_p1_party_told v_p1_party_kinds v_p1_party_costs v_p1_party_terms k1.1 v_p1_kept_size v_p1_kept_list v_p1_kept_told v_p1_kept_kinds v_p1_kept_costs v_p1_kept_terms v_p1_kept_known v_p1_tape_length v_p1_tape_place v_p1_tape_fault v_p1_tape_teller v_p1_tape_word v_p1_tape_bytes v_p1_telephone_queue v_p1_telephone_callsTo v_p1_telephone_firstCalled v_p1_sheets0_bits v_p1_sheets0_size v_p1_sheets0_numbers v_p1_sheets1_bits v_p1_sheets1_size v_p1_sheets1_numbers v_p1_sheets2_bits v_p1_sheets2_size v_p1_sheets2_numbers v_p1_sheets3_bits v_p1_sheets3_size v_p1_sheets3_numbers k1.2 v_p2_isKept v_p2_taped v_p2_at v_p2_fault v_p2_laid v_p2_open v_p2_s v_p2_keptS k2.1 k2.2.1 v_p2_tape v_p2_steps k2.2.2 v_p2_mark v_p2_bitsOf v_p2_sizeOf v_p2_number v_p2_moved
def S_sure (I0 I1 : LT) : Prop := ∀ (v_p1_isKept : Int32) (v_p1_party_size : Int32) (v_p1_party_list : Int32) (v_p1_party_told : Int32) (v_p1_party_kinds : Nat → Int32) (v_p1_party_costs : Nat → Int32) (v_p1_party_terms : Nat → Int64) (v_p1_party_known : Nat → Int32) (v_p1_kept_size : Int32) (v_p1_kept_list : Int32) (v_p1_kept_told : Int32) (v_p1_kept_kinds : Nat → Int32) (v_p1_kept_costs : Nat → Int32) (v_p1_kept_terms : Nat → Int64) (v_p1_kept_known : Nat → Int32) (v_p1_tape_length : Int32) (v_p1_tape_place : Int32) (v_p1_tape_fault : Int32) (v_p1_tape_teller : Int32) (v_p1_tape_word : Int32) (v_p1_tape_bytes : Nat → Int32) (v_p1_telephone_queue : Nat → Int32) (v_p1_telephone_callsTo : Nat → Int32) (v_p1_telephone_firstCalled : Nat → Int32) (v_p1_sheets0_bits : Int32) (v_p1_sheets0_size : Int32) (v_p1_sheets0_numbers : Nat → Int64) (v_p1_sheets1_bits : Int32) (v_p1_sheets1_size : Int32) (v_p1_sheets1_numbers : Nat → Int64) (v_p1_sheets2_bits : Int32) (v_p1_sheets2_size : Int32) (v_p1_sheets2_numbers : Nat → Int64) (v_p1_sheets3_bits : Int32) (v_p1_sheets3_size : Int32) (v_p1_sheets3_numbers : Nat → Int64) (v_p1_findings : Nat → Int32) (v_p2_isKept : Int32) (v_p2_taped : Int32) (v_p2_at : Int32) (v_p2_fault : Int32) (v_p2_laid : Int32) (v_p2_open : Int32) (v_p2_s : Nat → Int32) (v_p2_keptS : Nat → Int32) (v_p2_statuses : Nat → Int32) (v_p2_pile : Nat → Int32) (v_p2_tape : Nat → Int32) (v_p2_steps : Nat → Int32) (v_p2_wish : Nat → Int32) (v_p2_mark : Nat → Int32) (v_p2_bitsOf : Nat → Int32) (v_p2_sizeOf : Nat → Int32) (v_p2_number : Nat → Int64) (v_p2_moved : Nat → Int64) (x1 : Int32), I0 v_p1_isKept v_p1_party_size v_p1_party_list v_p1_party_told v_p1_party_kinds v_p1_party_costs v_p1_party_terms v_p1_party_known v_p1_kept_size v_p1_kept_list v_p1_kept_told v_p1_kept_kinds v_p1_kept_costs v_p1_kept_terms v_p1_kept_known v_p1_tape_length v_p1_tape_place v_p1_tape_fault v_p1_tape_teller v_p1_tape_word v_p1_tape_bytes v_p1_telephone_queue v_p1_telephone_callsTo v_p1_telephone_firstCalled v_p1_sheets0_bits v_p1_sheets0_size v_p1_sheets0_numbers v_p1_sheets1_bits v_p1_sheets1_size v_p1_sheets1_numbers v_p1_sheets2_bits v_p1_sheets2_size v_p1_sheets2_numbers v_p1_sheets3_bits v_p1_sheets3_size v_p1_sheets3_numbers v_p1_findings v_p2_isKept v_p2_taped v_p2_at v_p2_fault v_p2_laid v_p2_open v_p2_s v_p2_keptS v_p2_statuses v_p2_pile v_p2_tape v_p2_steps v_p2_wish v_p2_mark v_p2_bitsOf v_p2_sizeOf v_p2_number v_p2_moved → ∃ (r1 : Int32) (k1 : (Nat → Int32) × (Nat → Int32)) (r2 : Int32) (k2 : (Nat → Int32) × (Nat → Int32) × (Nat → Int32)), fX4_sure v_p1_party_size v_p1_party_kinds v_p1_party_terms v_p1_party_known v_p1_findings x1 = some (r1, k1) ∧ fX5_sure v_p2_s v_p2_statuses v_p2_pile v_p2_wish x1 = some (r2, k2) ∧ r1 = r2 ∧ I1 v_p1_isKept v_p1_party_size v_p1_party_list v_p1_party_told v_p1_party_kinds v_p1_party_costs v_p1_party_terms k1.1 v_p1_kept_size v_p1_kept_list v_p1_kept_told v_p1_kept_kinds v_p1_kept_costs v_p1_kept_terms v_p1_kept_known v_p1_tape_length v_p1_tape_place v_p1_tape_fault v_p1_tape_teller v_p1_tape_word v_p1_tape_bytes v_p1_telephone_queue v_p1_telephone_callsTo v_p1_telephone_firstCalled v_p1_sheets0_bits v_p1_sheets0_size v_p1_sheets0_numbers v_p1_sheets1_bits v_p1_sheets1_size v_p1_sheets1_numbers v_p1_sheets2_bits v_p1_sheets2_size v_p1_sheets2_numbers v_p1_sheets3_bits v_p1_sheets3_size v_p1_sheets3_numbers k1.2 v_p2_isKept v_p2_taped v_p2_at v_p2_fault v_p2_laid v_p2_open v_p2_s v_p2_keptS k2.1 k2.2.1 v_p2_tape v_p2_steps k2.2.2 v_p2_mark v_p2_bitsOf v_p2_sizeOf v_p2_number v_p2_moved
def S_basin (I0 I1 : LT) : Prop := ∀ (v_p1_isKept : Int32) (v_p1_party_size : Int32) (v_p1_party_list : Int32) (v_p1_party_told : Int32) (v_p1_party_kinds : Nat → Int32) (v_p1_party_costs : Nat → Int32) (v_p1_party_terms : Nat → Int64) (v_p1_party_known : Nat → Int32) (v_p1_kept_size : Int32) (v_p1_kept_list : Int32) (v_p1_kept_told : Int32) (v_p1_kept_kinds : Nat → Int32) (v_p1_kept_costs : Nat → Int32) (v_p1_kept_terms : Nat → Int64) (v_p1_kept_known : Nat → Int32) (v_p1_tape_length : Int32) (v_p1_tape_place : Int32) (v_p1_tape_fault : Int32) (v_p1_tape_teller : Int32) (v_p1_tape_word : Int32) (v_p1_tape_bytes : Nat → Int32) (v_p1_telephone_queue : Nat → Int32) (v_p1_telephone_callsTo : Nat → Int32) (v_p1_telephone_firstCalled : Nat → Int32) (v_p1_sheets0_bits : Int32) (v_p1_sheets0_size : Int32) (v_p1_sheets0_numbers : Nat → Int64) (v_p1_sheets1_bits : Int32) (v_p1_sheets1_size : Int32) (v_p1_sheets1_numbers : Nat → Int64) (v_p1_sheets2_bits : Int32) (v_p1_sheets2_size : Int32) (v_p1_sheets2_numbers : Nat → Int64) (v_p1_sheets3_bits : Int32) (v_p1_sheets3_size : Int32) (v_p1_sheets3_numbers : Nat → Int64) (v_p1_findings : Nat → Int32) (v_p2_isKept : Int32) (v_p2_taped : Int32) (v_p2_at : Int32) (v_p2_fault : Int32) (v_p2_laid : Int32) (v_p2_open : Int32) (v_p2_s : Nat → Int32) (v_p2_keptS : Nat → Int32) (v_p2_statuses : Nat → Int32) (v_p2_pile : Nat → Int32) (v_p2_tape : Nat → Int32) (v_p2_steps : Nat → Int32) (v_p2_wish : Nat → Int32) (v_p2_mark : Nat → Int32) (v_p2_bitsOf : Nat → Int32) (v_p2_sizeOf : Nat → Int32) (v_p2_number : Nat → Int64) (v_p2_moved : Nat → Int64), I0 v_p1_isKept v_p1_party_size v_p1_party_list v_p1_party_told v_p1_party_kinds v_p1_party_costs v_p1_party_terms v_p1_party_known v_p1_kept_size v_p1_kept_list v_p1_kept_told v_p1_kept_kinds v_p1_kept_costs v_p1_kept_terms v_p1_kept_known v_p1_tape_length v_p1_tape_place v_p1_tape_fault v_p1_tape_teller v_p1_tape_word v_p1_tape_bytes v_p1_telephone_queue v_p1_telephone_callsTo v_p1_telephone_firstCalled v_p1_sheets0_bits v_p1_sheets0_size v_p1_sheets0_numbers v_p1_sheets1_bits v_p1_sheets1_size v_p1_sheets1_numbers v_p1_sheets2_bits v_p1_sheets2_size v_p1_sheets2_numbers v_p1_sheets3_bits v_p1_sheets3_size v_p1_sheets3_numbers v_p1_findings v_p2_isKept v_p2_taped v_p2_at v_p2_fault v_p2_laid v_p2_open v_p2_s v_p2_keptS v_p2_statuses v_p2_pile v_p2_tape v_p2_steps v_p2_wish v_p2_mark v_p2_bitsOf v_p2_sizeOf v_p2_number v_p2_moved → ∃ (r1 : Int32) (k1 : (Nat → Int32)) (r2 : Int32) (k2 : (Nat → Int32) × (Nat → Int32) × (Nat → Int32)), fX4_basin v_p1_party_size v_p1_party_kinds v_p1_party_terms v_p1_party_known = some (r1, k1) ∧ fX5_basin v_p2_s v_p2_pile v_p2_wish v_p2_mark = some (r2, k2) ∧ r1 = r2 ∧ I1 v_p1_isKept v_p1_party_size v_p1_party_list v_p1_party_told v_p1_party_kinds v_p1_party_costs v_p1_party_terms k1 v_p1_kept_size v_p1_kept_list v_p1_kept_told v_p1_kept_kinds v_p1_kept_costs v_p1_kept_terms v_p1_kept_known v_p1_tape_length v_p1_tape_place v_p1_tape_fault v_p1_tape_teller v_p1_tape_word v_p1_tape_bytes v_p1_telephone_queue v_p1_telephone_callsTo v_p1_telephone_firstCalled v_p1_sheets0_bits v_p1_sheets0_size v_p1_sheets0_numbers v_p1_sheets1_bits v_p1_sheets1_size v_p1_sheets1_numbers v_p1_sheets2_bits v_p1_sheets2_size v_p1_sheets2_numbers v_p1_sheets3_bits v_p1_sheets3_size v_p1_sheets3_numbers v_p1_findings v_p2_isKept v_p2_taped v_p2_at v_p2_fault v_p2_laid v_p2_open v_p2_s v_p2_keptS v_p2_statuses k2.1 v_p2_tape v_p2_steps k2.2.1 k2.2.2 v_p2_bitsOf v_p2_sizeOf v_p2_number v_p2_moved
def S_odds (I0 I1 : LT) : Prop := ∀ (v_p1_isKept : Int32) (v_p1_party_size : Int32) (v_p1_party_list : Int32) (v_p1_party_told : Int32) (v_p1_party_kinds : Nat → Int32) (v_p1_party_costs : Nat → Int32) (v_p1_party_terms : Nat → Int64) (v_p1_party_known : Nat → Int32) (v_p1_kept_size : Int32) (v_p1_kept_list : Int32) (v_p1_kept_told : Int32) (v_p1_kept_kinds : Nat → Int32) (v_p1_kept_costs : Nat → Int32) (v_p1_kept_terms : Nat → Int64) (v_p1_kept_known : Nat → Int32) (v_p1_tape_length : Int32) (v_p1_tape_place : Int32) (v_p1_tape_fault : Int32) (v_p1_tape_teller : Int32) (v_p1_tape_word : Int32) (v_p1_tape_bytes : Nat → Int32) (v_p1_telephone_queue : Nat → Int32) (v_p1_telephone_callsTo : Nat → Int32) (v_p1_telephone_firstCalled : Nat → Int32) (v_p1_sheets0_bits : Int32) (v_p1_sheets0_size : Int32) (v_p1_sheets0_numbers : Nat → Int64) (v_p1_sheets1_bits : Int32) (v_p1_sheets1_size : Int32) (v_p1_sheets1_numbers : Nat → Int64) (v_p1_sheets2_bits : Int32) (v_p1_sheets2_size : Int32) (v_p1_sheets2_numbers : Nat → Int64) (v_p1_sheets3_bits : Int32) (v_p1_sheets3_size : Int32) (v_p1_sheets3_numbers : Nat → Int64) (v_p1_findings : Nat → Int32) (v_p2_isKept : Int32) (v_p2_taped : Int32) (v_p2_at : Int32) (v_p2_fault : Int32) (v_p2_laid : Int32) (v_p2_open : Int32) (v_p2_s : Nat → Int32) (v_p2_keptS : Nat → Int32) (v_p2_statuses : Nat → Int32) (v_p2_pile : Nat → Int32) (v_p2_tape : Nat → Int32) (v_p2_steps : Nat → Int32) (v_p2_wish : Nat → Int32) (v_p2_mark : Nat → Int32) (v_p2_bitsOf : Nat → Int32) (v_p2_sizeOf : Nat → Int32) (v_p2_number : Nat → Int64) (v_p2_moved : Nat → Int64) (x1 : Int32) (x2 : Int32), I0 v_p1_isKept v_p1_party_size v_p1_party_list v_p1_party_told v_p1_party_kinds v_p1_party_costs v_p1_party_terms v_p1_party_known v_p1_kept_size v_p1_kept_list v_p1_kept_told v_p1_kept_kinds v_p1_kept_costs v_p1_kept_terms v_p1_kept_known v_p1_tape_length v_p1_tape_place v_p1_tape_fault v_p1_tape_teller v_p1_tape_word v_p1_tape_bytes v_p1_telephone_queue v_p1_telephone_callsTo v_p1_telephone_firstCalled v_p1_sheets0_bits v_p1_sheets0_size v_p1_sheets0_numbers v_p1_sheets1_bits v_p1_sheets1_size v_p1_sheets1_numbers v_p1_sheets2_bits v_p1_sheets2_size v_p1_sheets2_numbers v_p1_sheets3_bits v_p1_sheets3_size v_p1_sheets3_numbers v_p1_findings v_p2_isKept v_p2_taped v_p2_at v_p2_fault v_p2_laid v_p2_open v_p2_s v_p2_keptS v_p2_statuses v_p2_pile v_p2_tape v_p2_steps v_p2_wish v_p2_mark v_p2_bitsOf v_p2_sizeOf v_p2_number v_p2_moved → ∃ (r1 : Int64) (k1 : (Nat → Int32) × (Nat → Int32)) (r2 : Int64) (k2 : (Nat → Int32) × (Nat → Int32) × (Nat → Int32) × (Nat → Int32)), fX4_odds v_p1_party_size v_p1_party_kinds v_p1_party_terms v_p1_party_known v_p1_findings x1 x2 = some (r1, k1) ∧ fX5_odds v_p2_s v_p2_statuses v_p2_pile v_p2_wish v_p2_mark x1 x2 = some (r2, k2) ∧ r1 = r2 ∧ I1 v_p1_isKept v_p1_party_size v_p1_party_list v_p1_party_told v_p1_party_kinds v_p1_party_costs v_p1_party_terms k1.1 v_p1_kept_size v_p1_kept_list v_p1_kept_told v_p1_kept_kinds v_p1_kept_costs v_p1_kept_terms v_p1_kept_known v_p1_tape_length v_p1_tape_place v_p1_tape_fault v_p1_tape_teller v_p1_tape_word v_p1_tape_bytes v_p1_telephone_queue v_p1_telephone_callsTo v_p1_telephone_firstCalled v_p1_sheets0_bits v_p1_sheets0_size v_p1_sheets0_numbers v_p1_sheets1_bits v_p1_sheets1_size v_p1_sheets1_numbers v_p1_sheets2_bits v_p1_sheets2_size v_p1_sheets2_numbers v_p1_sheets3_bits v_p1_sheets3_size v_p1_sheets3_numbers k1.2 v_p2_isKept v_p2_taped v_p2_at v_p2_fault v_p2_laid v_p2_open v_p2_s v_p2_keptS k2.1 k2.2.1 v_p2_tape v_p2_steps k2.2.2.1 k2.2.2.2 v_p2_bitsOf v_p2_sizeOf v_p2_number v_p2_moved
def S_last (I0 I1 : LT) : Prop := ∀ (v_p1_isKept : Int32) (v_p1_party_size : Int32) (v_p1_party_list : Int32) (v_p1_party_told : Int32) (v_p1_party_kinds : Nat → Int32) (v_p1_party_costs : Nat → Int32) (v_p1_party_terms : Nat → Int64) (v_p1_party_known : Nat → Int32) (v_p1_kept_size : Int32) (v_p1_kept_list : Int32) (v_p1_kept_told : Int32) (v_p1_kept_kinds : Nat → Int32) (v_p1_kept_costs : Nat → Int32) (v_p1_kept_terms : Nat → Int64) (v_p1_kept_known : Nat → Int32) (v_p1_tape_length : Int32) (v_p1_tape_place : Int32) (v_p1_tape_fault : Int32) (v_p1_tape_teller : Int32) (v_p1_tape_word : Int32) (v_p1_tape_bytes : Nat → Int32) (v_p1_telephone_queue : Nat → Int32) (v_p1_telephone_callsTo : Nat → Int32) (v_p1_telephone_firstCalled : Nat → Int32) (v_p1_sheets0_bits : Int32) (v_p1_sheets0_size : Int32) (v_p1_sheets0_numbers : Nat → Int64) (v_p1_sheets1_bits : Int32) (v_p1_sheets1_size : Int32) (v_p1_sheets1_numbers : Nat → Int64) (v_p1_sheets2_bits : Int32) (v_p1_sheets2_size : Int32) (v_p1_sheets2_numbers : Nat → Int64) (v_p1_sheets3_bits : Int32) (v_p1_sheets3_size : Int32) (v_p1_sheets3_numbers : Nat → Int64) (v_p1_findings : Nat → Int32) (v_p2_isKept : Int32) (v_p2_taped : Int32) (v_p2_at : Int32) (v_p2_fault : Int32) (v_p2_laid : Int32) (v_p2_open : Int32) (v_p2_s : Nat → Int32) (v_p2_keptS : Nat → Int32) (v_p2_statuses : Nat → Int32) (v_p2_pile : Nat → Int32) (v_p2_tape : Nat → Int32) (v_p2_steps : Nat → Int32) (v_p2_wish : Nat → Int32) (v_p2_mark : Nat → Int32) (v_p2_bitsOf : Nat → Int32) (v_p2_sizeOf : Nat → Int32) (v_p2_number : Nat → Int64) (v_p2_moved : Nat → Int64) (x1 : Int32), I0 v_p1_isKept v_p1_party_size v_p1_party_list v_p1_party_told v_p1_party_kinds v_p1_party_costs v_p1_party_terms v_p1_party_known v_p1_kept_size v_p1_kept_list v_p1_kept_told v_p1_kept_kinds v_p1_kept_costs v_p1_kept_terms v_p1_kept_known v_p1_tape_length v_p1_tape_place v_p1_tape_fault v_p1_tape_teller v_p1_tape_word v_p1_tape_bytes v_p1_telephone_queue v_p1_telephone_callsTo v_p1_telephone_firstCalled v_p1_sheets0_bits v_p1_sheets0_size v_p1_sheets0_numbers v_p1_sheets1_bits v_p1_sheets1_size v_p1_sheets1_numbers v_p1_sheets2_bits v_p1_sheets2_size v_p1_sheets2_numbers v_p1_sheets3_bits v_p1_sheets3_size v_p1_sheets3_numbers v_p1_findings v_p2_isKept v_p2_taped v_p2_at v_p2_fault v_p2_laid v_p2_open v_p2_s v_p2_keptS v_p2_statuses v_p2_pile v_p2_tape v_p2_steps v_p2_wish v_p2_mark v_p2_bitsOf v_p2_sizeOf v_p2_number v_p2_moved → ∃ (r1 : Int32) (k1 : (Nat → Int32) × (Nat → Int32)) (r2 : Int32) (k2 : (Nat → Int32) × (Nat → Int32) × (Nat → Int32)), fX4_last v_p1_party_size v_p1_party_kinds v_p1_party_terms v_p1_party_known v_p1_findings x1 = some (r1, k1) ∧ fX5_last v_p2_s v_p2_statuses v_p2_pile v_p2_wish x1 = some (r2, k2) ∧ r1 = r2 ∧ I1 v_p1_isKept v_p1_party_size v_p1_party_list v_p1_party_told v_p1_party_kinds v_p1_party_costs v_p1_party_terms k1.1 v_p1_kept_size v_p1_kept_list v_p1_kept_told v_p1_kept_kinds v_p1_kept_costs v_p1_kept_terms v_p1_kept_known v_p1_tape_length v_p1_tape_place v_p1_tape_fault v_p1_tape_teller v_p1_tape_word v_p1_tape_bytes v_p1_telephone_queue v_p1_telephone_callsTo v_p1_telephone_firstCalled v_p1_sheets0_bits v_p1_sheets0_size v_p1_sheets0_numbers v_p1_sheets1_bits v_p1_sheets1_size v_p1_sheets1_numbers v_p1_sheets2_bits v_p1_sheets2_size v_p1_sheets2_numbers v_p1_sheets3_bits v_p1_sheets3_size v_p1_sheets3_numbers k1.2 v_p2_isKept v_p2_taped v_p2_at v_p2_fault v_p2_laid v_p2_open v_p2_s v_p2_keptS k2.1 k2.2.1 v_p2_tape v_p2_steps k2.2.2 v_p2_mark v_p2_bitsOf v_p2_sizeOf v_p2_number v_p2_moved
def S_buys (I0 I1 : LT) : Prop := ∀ (v_p1_isKept : Int32) (v_p1_party_size : Int32) (v_p1_party_list : Int32) (v_p1_party_told : Int32) (v_p1_party_kinds : Nat → Int32) (v_p1_party_costs : Nat → Int32) (v_p1_party_terms : Nat → Int64) (v_p1_party_known : Nat → Int32) (v_p1_kept_size : Int32) (v_p1_kept_list : Int32) (v_p1_kept_told : Int32) (v_p1_kept_kinds : Nat → Int32) (v_p1_kept_costs : Nat → Int32) (v_p1_kept_terms : Nat → Int64) (v_p1_kept_known : Nat → Int32) (v_p1_tape_length : Int32) (v_p1_tape_place : Int32) (v_p1_tape_fault : Int32) (v_p1_tape_teller : Int32) (v_p1_tape_word : Int32) (v_p1_tape_bytes : Nat → Int32) (v_p1_telephone_queue : Nat → Int32) (v_p1_telephone_callsTo : Nat → Int32) (v_p1_telephone_firstCalled : Nat → Int32) (v_p1_sheets0_bits : Int32) (v_p1_sheets0_size : Int32) (v_p1_sheets0_numbers : Nat → Int64) (v_p1_sheets1_bits : Int32) (v_p1_sheets1_size : Int32) (v_p1_sheets1_numbers : Nat → Int64) (v_p1_sheets2_bits : Int32) (v_p1_sheets2_size : Int32) (v_p1_sheets2_numbers : Nat → Int64) (v_p1_sheets3_bits : Int32) (v_p1_sheets3_size : Int32) (v_p1_sheets3_numbers : Nat → Int64) (v_p1_findings : Nat → Int32) (v_p2_isKept : Int32) (v_p2_taped : Int32) (v_p2_at : Int32) (v_p2_fault : Int32) (v_p2_laid : Int32) (v_p2_open : Int32) (v_p2_s : Nat → Int32) (v_p2_keptS : Nat → Int32) (v_p2_statuses : Nat → Int32) (v_p2_pile : Nat → Int32) (v_p2_tape : Nat → Int32) (v_p2_steps : Nat → Int32) (v_p2_wish : Nat → Int32) (v_p2_mark : Nat → Int32) (v_p2_bitsOf : Nat → Int32) (v_p2_sizeOf : Nat → Int32) (v_p2_number : Nat → Int64) (v_p2_moved : Nat → Int64) (x1 : Int32), I0 v_p1_isKept v_p1_party_size v_p1_party_list v_p1_party_told v_p1_party_kinds v_p1_party_costs v_p1_party_terms v_p1_party_known v_p1_kept_size v_p1_kept_list v_p1_kept_told v_p1_kept_kinds v_p1_kept_costs v_p1_kept_terms v_p1_kept_known v_p1_tape_length v_p1_tape_place v_p1_tape_fault v_p1_tape_teller v_p1_tape_word v_p1_tape_bytes v_p1_telephone_queue v_p1_telephone_callsTo v_p1_telephone_firstCalled v_p1_sheets0_bits v_p1_sheets0_size v_p1_sheets0_numbers v_p1_sheets1_bits v_p1_sheets1_size v_p1_sheets1_numbers v_p1_sheets2_bits v_p1_sheets2_size v_p1_sheets2_numbers v_p1_sheets3_bits v_p1_sheets3_size v_p1_sheets3_numbers v_p1_findings v_p2_isKept v_p2_taped v_p2_at v_p2_fault v_p2_laid v_p2_open v_p2_s v_p2_keptS v_p2_statuses v_p2_pile v_p2_tape v_p2_steps v_p2_wish v_p2_mark v_p2_bitsOf v_p2_sizeOf v_p2_number v_p2_moved → ∃ (r1 : Int32) (k1 : (Nat → Int32) × (Nat → Int32)) (r2 : Int32) (k2 : (Nat → Int32) × (Nat → Int32) × (Nat → Int32)), fX4_buys v_p1_party_size v_p1_party_kinds v_p1_party_costs v_p1_party_terms v_p1_party_known v_p1_findings x1 = some (r1, k1) ∧ fX5_buys v_p2_s v_p2_statuses v_p2_pile v_p2_wish x1 = some (r2, k2) ∧ r1 = r2 ∧ I1 v_p1_isKept v_p1_party_size v_p1_party_list v_p1_party_told v_p1_party_kinds v_p1_party_costs v_p1_party_terms k1.1 v_p1_kept_size v_p1_kept_list v_p1_kept_told v_p1_kept_kinds v_p1_kept_costs v_p1_kept_terms v_p1_kept_known v_p1_tape_length v_p1_tape_place v_p1_tape_fault v_p1_tape_teller v_p1_tape_word v_p1_tape_bytes v_p1_telephone_queue v_p1_telephone_callsTo v_p1_telephone_firstCalled v_p1_sheets0_bits v_p1_sheets0_size v_p1_sheets0_numbers v_p1_sheets1_bits v_p1_sheets1_size v_p1_sheets1_numbers v_p1_sheets2_bits v_p1_sheets2_size v_p1_sheets2_numbers v_p1_sheets3_bits v_p1_sheets3_size v_p1_sheets3_numbers k1.2 v_p2_isKept v_p2_taped v_p2_at v_p2_fault v_p2_laid v_p2_open v_p2_s v_p2_keptS k2.1 k2.2.1 v_p2_tape v_p2_steps k2.2.2 v_p2_mark v_p2_bitsOf v_p2_sizeOf v_p2_number v_p2_moved
def S_price (I0 I1 : LT) : Prop := ∀ (v_p1_isKept : Int32) (v_p1_party_size : Int32) (v_p1_party_list : Int32) (v_p1_party_told : Int32) (v_p1_party_kinds : Nat → Int32) (v_p1_party_costs : Nat → Int32) (v_p1_party_terms : Nat → Int64) (v_p1_party_known : Nat → Int32) (v_p1_kept_size : Int32) (v_p1_kept_list : Int32) (v_p1_kept_told : Int32) (v_p1_kept_kinds : Nat → Int32) (v_p1_kept_costs : Nat → Int32) (v_p1_kept_terms : Nat → Int64) (v_p1_kept_known : Nat → Int32) (v_p1_tape_length : Int32) (v_p1_tape_place : Int32) (v_p1_tape_fault : Int32) (v_p1_tape_teller : Int32) (v_p1_tape_word : Int32) (v_p1_tape_bytes : Nat → Int32) (v_p1_telephone_queue : Nat → Int32) (v_p1_telephone_callsTo : Nat → Int32) (v_p1_telephone_firstCalled : Nat → Int32) (v_p1_sheets0_bits : Int32) (v_p1_sheets0_size : Int32) (v_p1_sheets0_numbers : Nat → Int64) (v_p1_sheets1_bits : Int32) (v_p1_sheets1_size : Int32) (v_p1_sheets1_numbers : Nat → Int64) (v_p1_sheets2_bits : Int32) (v_p1_sheets2_size : Int32) (v_p1_sheets2_numbers : Nat → Int64) (v_p1_sheets3_bits : Int32) (v_p1_sheets3_size : Int32) (v_p1_sheets3_numbers : Nat → Int64) (v_p1_findings : Nat → Int32) (v_p2_isKept : Int32) (v_p2_taped : Int32) (v_p2_at : Int32) (v_p2_fault : Int32) (v_p2_laid : Int32) (v_p2_open : Int32) (v_p2_s : Nat → Int32) (v_p2_keptS : Nat → Int32) (v_p2_statuses : Nat → Int32) (v_p2_pile : Nat → Int32) (v_p2_tape : Nat → Int32) (v_p2_steps : Nat → Int32) (v_p2_wish : Nat → Int32) (v_p2_mark : Nat → Int32) (v_p2_bitsOf : Nat → Int32) (v_p2_sizeOf : Nat → Int32) (v_p2_number : Nat → Int64) (v_p2_moved : Nat → Int64) (x1 : Int32), I0 v_p1_isKept v_p1_party_size v_p1_party_list v_p1_party_told v_p1_party_kinds v_p1_party_costs v_p1_party_terms v_p1_party_known v_p1_kept_size v_p1_kept_list v_p1_kept_told v_p1_kept_kinds v_p1_kept_costs v_p1_kept_terms v_p1_kept_known v_p1_tape_length v_p1_tape_place v_p1_tape_fault v_p1_tape_teller v_p1_tape_word v_p1_tape_bytes v_p1_telephone_queue v_p1_telephone_callsTo v_p1_telephone_firstCalled v_p1_sheets0_bits v_p1_sheets0_size v_p1_sheets0_numbers v_p1_sheets1_bits v_p1_sheets1_size v_p1_sheets1_numbers v_p1_sheets2_bits v_p1_sheets2_size v_p1_sheets2_numbers v_p1_sheets3_bits v_p1_sheets3_size v_p1_sheets3_numbers v_p1_findings v_p2_isKept v_p2_taped v_p2_at v_p2_fault v_p2_laid v_p2_open v_p2_s v_p2_keptS v_p2_statuses v_p2_pile v_p2_tape v_p2_steps v_p2_wish v_p2_mark v_p2_bitsOf v_p2_sizeOf v_p2_number v_p2_moved → ∃ (r1 : Int32) (k1 : (Nat → Int32) × (Nat → Int32)) (r2 : Int32) (k2 : (Nat → Int32) × (Nat → Int32) × (Nat → Int32)), fX4_price v_p1_party_size v_p1_party_kinds v_p1_party_costs v_p1_party_terms v_p1_party_known v_p1_findings x1 = some (r1, k1) ∧ fX5_price v_p2_s v_p2_statuses v_p2_pile v_p2_wish x1 = some (r2, k2) ∧ r1 = r2 ∧ I1 v_p1_isKept v_p1_party_size v_p1_party_list v_p1_party_told v_p1_party_kinds v_p1_party_costs v_p1_party_terms k1.1 v_p1_kept_size v_p1_kept_list v_p1_kept_told v_p1_kept_kinds v_p1_kept_costs v_p1_kept_terms v_p1_kept_known v_p1_tape_length v_p1_tape_place v_p1_tape_fault v_p1_tape_teller v_p1_tape_word v_p1_tape_bytes v_p1_telephone_queue v_p1_telephone_callsTo v_p1_telephone_firstCalled v_p1_sheets0_bits v_p1_sheets0_size v_p1_sheets0_numbers v_p1_sheets1_bits v_p1_sheets1_size v_p1_sheets1_numbers v_p1_sheets2_bits v_p1_sheets2_size v_p1_sheets2_numbers v_p1_sheets3_bits v_p1_sheets3_size v_p1_sheets3_numbers k1.2 v_p2_isKept v_p2_taped v_p2_at v_p2_fault v_p2_laid v_p2_open v_p2_s v_p2_keptS k2.1 k2.2.1 v_p2_tape v_p2_steps k2.2.2 v_p2_mark v_p2_bitsOf v_p2_sizeOf v_p2_number v_p2_moved
def S_spoils (I0 I1 : LT) : Prop := ∀ (v_p1_isKept : Int32) (v_p1_party_size : Int32) (v_p1_party_list : Int32) (v_p1_party_told : Int32) (v_p1_party_kinds : Nat → Int32) (v_p1_party_costs : Nat → Int32) (v_p1_party_terms : Nat → Int64) (v_p1_party_known : Nat → Int32) (v_p1_kept_size : Int32) (v_p1_kept_list : Int32) (v_p1_kept_told : Int32) (v_p1_kept_kinds : Nat → Int32) (v_p1_kept_costs : Nat → Int32) (v_p1_kept_terms : Nat → Int64) (v_p1_kept_known : Nat → Int32) (v_p1_tape_length : Int32) (v_p1_tape_place : Int32) (v_p1_tape_fault : Int32) (v_p1_tape_teller : Int32) (v_p1_tape_word : Int32) (v_p1_tape_bytes : Nat → Int32) (v_p1_telephone_queue : Nat → Int32) (v_p1_telephone_callsTo : Nat → Int32) (v_p1_telephone_firstCalled : Nat → Int32) (v_p1_sheets0_bits : Int32) (v_p1_sheets0_size : Int32) (v_p1_sheets0_numbers : Nat → Int64) (v_p1_sheets1_bits : Int32) (v_p1_sheets1_size : Int32) (v_p1_sheets1_numbers : Nat → Int64) (v_p1_sheets2_bits : Int32) (v_p1_sheets2_size : Int32) (v_p1_sheets2_numbers : Nat → Int64) (v_p1_sheets3_bits : Int32) (v_p1_sheets3_size : Int32) (v_p1_sheets3_numbers : Nat → Int64) (v_p1_findings : Nat → Int32) (v_p2_isKept : Int32) (v_p2_taped : Int32) (v_p2_at : Int32) (v_p2_fault : Int32) (v_p2_laid : Int32) (v_p2_open : Int32) (v_p2_s : Nat → Int32) (v_p2_keptS : Nat → Int32) (v_p2_statuses : Nat → Int32) (v_p2_pile : Nat → Int32) (v_p2_tape : Nat → Int32) (v_p2_steps : Nat → Int32) (v_p2_wish : Nat → Int32) (v_p2_mark : Nat → Int32) (v_p2_bitsOf : Nat → Int32) (v_p2_sizeOf : Nat → Int32) (v_p2_number : Nat → Int64) (v_p2_moved : Nat → Int64), I0 v_p1_isKept v_p1_party_size v_p1_party_list v_p1_party_told v_p1_party_kinds v_p1_party_costs v_p1_party_terms v_p1_party_known v_p1_kept_size v_p1_kept_list v_p1_kept_told v_p1_kept_kinds v_p1_kept_costs v_p1_kept_terms v_p1_kept_known v_p1_tape_length v_p1_tape_place v_p1_tape_fault v_p1_tape_teller v_p1_tape_word v_p1_tape_bytes v_p1_telephone_queue v_p1_telephone_callsTo v_p1_telephone_firstCalled v_p1_sheets0_bits v_p1_sheets0_size v_p1_sheets0_numbers v_p1_sheets1_bits v_p1_sheets1_size v_p1_sheets1_numbers v_p1_sheets2_bits v_p1_sheets2_size v_p1_sheets2_numbers v_p1_sheets3_bits v_p1_sheets3_size v_p1_sheets3_numbers v_p1_findings v_p2_isKept v_p2_taped v_p2_at v_p2_fault v_p2_laid v_p2_open v_p2_s v_p2_keptS v_p2_statuses v_p2_pile v_p2_tape v_p2_steps v_p2_wish v_p2_mark v_p2_bitsOf v_p2_sizeOf v_p2_number v_p2_moved → ∃ (r1 : Int32) (k1 : (Nat → Int32) × (Nat → Int32)) (r2 : Int32) (k2 : (Nat → Int32) × (Nat → Int32) × (Nat → Int32)), fX4_spoils v_p1_party_size v_p1_party_kinds v_p1_party_terms v_p1_party_known v_p1_findings = some (r1, k1) ∧ fX5_spoils v_p2_s v_p2_statuses v_p2_pile v_p2_wish = some (r2, k2) ∧ r1 = r2 ∧ I1 v_p1_isKept v_p1_party_size v_p1_party_list v_p1_party_told v_p1_party_kinds v_p1_party_costs v_p1_party_terms k1.1 v_p1_kept_size v_p1_kept_list v_p1_kept_told v_p1_kept_kinds v_p1_kept_costs v_p1_kept_terms v_p1_kept_known v_p1_tape_length v_p1_tape_place v_p1_tape_fault v_p1_tape_teller v_p1_tape_word v_p1_tape_bytes v_p1_telephone_queue v_p1_telephone_callsTo v_p1_telephone_firstCalled v_p1_sheets0_bits v_p1_sheets0_size v_p1_sheets0_numbers v_p1_sheets1_bits v_p1_sheets1_size v_p1_sheets1_numbers v_p1_sheets2_bits v_p1_sheets2_size v_p1_sheets2_numbers v_p1_sheets3_bits v_p1_sheets3_size v_p1_sheets3_numbers k1.2 v_p2_isKept v_p2_taped v_p2_at v_p2_fault v_p2_laid v_p2_open v_p2_s v_p2_keptS k2.1 k2.2.1 v_p2_tape v_p2_steps k2.2.2 v_p2_mark v_p2_bitsOf v_p2_sizeOf v_p2_number v_p2_moved
def S_invites (I0 I1 : LT) : Prop := ∀ (v_p1_isKept : Int32) (v_p1_party_size : Int32) (v_p1_party_list : Int32) (v_p1_party_told : Int32) (v_p1_party_kinds : Nat → Int32) (v_p1_party_costs : Nat → Int32) (v_p1_party_terms : Nat → Int64) (v_p1_party_known : Nat → Int32) (v_p1_kept_size : Int32) (v_p1_kept_list : Int32) (v_p1_kept_told : Int32) (v_p1_kept_kinds : Nat → Int32) (v_p1_kept_costs : Nat → Int32) (v_p1_kept_terms : Nat → Int64) (v_p1_kept_known : Nat → Int32) (v_p1_tape_length : Int32) (v_p1_tape_place : Int32) (v_p1_tape_fault : Int32) (v_p1_tape_teller : Int32) (v_p1_tape_word : Int32) (v_p1_tape_bytes : Nat → Int32) (v_p1_telephone_queue : Nat → Int32) (v_p1_telephone_callsTo : Nat → Int32) (v_p1_telephone_firstCalled : Nat → Int32) (v_p1_sheets0_bits : Int32) (v_p1_sheets0_size : Int32) (v_p1_sheets0_numbers : Nat → Int64) (v_p1_sheets1_bits : Int32) (v_p1_sheets1_size : Int32) (v_p1_sheets1_numbers : Nat → Int64) (v_p1_sheets2_bits : Int32) (v_p1_sheets2_size : Int32) (v_p1_sheets2_numbers : Nat → Int64) (v_p1_sheets3_bits : Int32) (v_p1_sheets3_size : Int32) (v_p1_sheets3_numbers : Nat → Int64) (v_p1_findings : Nat → Int32) (v_p2_isKept : Int32) (v_p2_taped : Int32) (v_p2_at : Int32) (v_p2_fault : Int32) (v_p2_laid : Int32) (v_p2_open : Int32) (v_p2_s : Nat → Int32) (v_p2_keptS : Nat → Int32) (v_p2_statuses : Nat → Int32) (v_p2_pile : Nat → Int32) (v_p2_tape : Nat → Int32) (v_p2_steps : Nat → Int32) (v_p2_wish : Nat → Int32) (v_p2_mark : Nat → Int32) (v_p2_bitsOf : Nat → Int32) (v_p2_sizeOf : Nat → Int32) (v_p2_number : Nat → Int64) (v_p2_moved : Nat → Int64) (x1 : Int32) (x2 : Int32), I0 v_p1_isKept v_p1_party_size v_p1_party_list v_p1_party_told v_p1_party_kinds v_p1_party_costs v_p1_party_terms v_p1_party_known v_p1_kept_size v_p1_kept_list v_p1_kept_told v_p1_kept_kinds v_p1_kept_costs v_p1_kept_terms v_p1_kept_known v_p1_tape_length v_p1_tape_place v_p1_tape_fault v_p1_tape_teller v_p1_tape_word v_p1_tape_bytes v_p1_telephone_queue v_p1_telephone_callsTo v_p1_telephone_firstCalled v_p1_sheets0_bits v_p1_sheets0_size v_p1_sheets0_numbers v_p1_sheets1_bits v_p1_sheets1_size v_p1_sheets1_numbers v_p1_sheets2_bits v_p1_sheets2_size v_p1_sheets2_numbers v_p1_sheets3_bits v_p1_sheets3_size v_p1_sheets3_numbers v_p1_findings v_p2_isKept v_p2_taped v_p2_at v_p2_fault v_p2_laid v_p2_open v_p2_s v_p2_keptS v_p2_statuses v_p2_pile v_p2_tape v_p2_steps v_p2_wish v_p2_mark v_p2_bitsOf v_p2_sizeOf v_p2_number v_p2_moved → ∃ (r1 : Int32) (k1 : (Nat → Int32) × (Nat → Int32)) (r2 : Int32) (k2 : (Nat → Int32) × (Nat → Int32) × (Nat → Int32)), fX4_invites v_p1_party_size v_p1_party_kinds v_p1_party_terms v_p1_party_known v_p1_findings x1 x2 = some (r1, k1) ∧ fX5_invites v_p2_s v_p2_statuses v_p2_pile v_p2_wish x1 x2 = some (r2, k2) ∧ r1 = r2 ∧ I1 v_p1_isKept v_p1_party_size v_p1_party_list v_p1_party_told v_p1_party_kinds v_p1_party_costs v_p1_party_terms k1.1 v_p1_kept_size v_p1_kept_list v_p1_kept_told v_p1_kept_kinds v_p1_kept_costs v_p1_kept_terms v_p1_kept_known v_p1_tape_length v_p1_tape_place v_p1_tape_fault v_p1_tape_teller v_p1_tape_word v_p1_tape_bytes v_p1_telephone_queue v_p1_telephone_callsTo v_p1_telephone_firstCalled v_p1_sheets0_bits v_p1_sheets0_size v_p1_sheets0_numbers v_p1_sheets1_bits v_p1_sheets1_size v_p1_sheets1_numbers v_p1_sheets2_bits v_p1_sheets2_size v_p1_sheets2_numbers v_p1_sheets3_bits v_p1_sheets3_size v_p1_sheets3_numbers k1.2 v_p2_isKept v_p2_taped v_p2_at v_p2_fault v_p2_laid v_p2_open v_p2_s v_p2_keptS k2.1 k2.2.1 v_p2_tape v_p2_steps k2.2.2 v_p2_mark v_p2_bitsOf v_p2_sizeOf v_p2_number v_p2_moved
def S_against (I0 I1 : LT) : Prop := ∀ (v_p1_isKept : Int32) (v_p1_party_size : Int32) (v_p1_party_list : Int32) (v_p1_party_told : Int32) (v_p1_party_kinds : Nat → Int32) (v_p1_party_costs : Nat → Int32) (v_p1_party_terms : Nat → Int64) (v_p1_party_known : Nat → Int32) (v_p1_kept_size : Int32) (v_p1_kept_list : Int32) (v_p1_kept_told : Int32) (v_p1_kept_kinds : Nat → Int32) (v_p1_kept_costs : Nat → Int32) (v_p1_kept_terms : Nat → Int64) (v_p1_kept_known : Nat → Int32) (v_p1_tape_length : Int32) (v_p1_tape_place : Int32) (v_p1_tape_fault : Int32) (v_p1_tape_teller : Int32) (v_p1_tape_word : Int32) (v_p1_tape_bytes : Nat → Int32) (v_p1_telephone_queue : Nat → Int32) (v_p1_telephone_callsTo : Nat → Int32) (v_p1_telephone_firstCalled : Nat → Int32) (v_p1_sheets0_bits : Int32) (v_p1_sheets0_size : Int32) (v_p1_sheets0_numbers : Nat → Int64) (v_p1_sheets1_bits : Int32) (v_p1_sheets1_size : Int32) (v_p1_sheets1_numbers : Nat → Int64) (v_p1_sheets2_bits : Int32) (v_p1_sheets2_size : Int32) (v_p1_sheets2_numbers : Nat → Int64) (v_p1_sheets3_bits : Int32) (v_p1_sheets3_size : Int32) (v_p1_sheets3_numbers : Nat → Int64) (v_p1_findings : Nat → Int32) (v_p2_isKept : Int32) (v_p2_taped : Int32) (v_p2_at : Int32) (v_p2_fault : Int32) (v_p2_laid : Int32) (v_p2_open : Int32) (v_p2_s : Nat → Int32) (v_p2_keptS : Nat → Int32) (v_p2_statuses : Nat → Int32) (v_p2_pile : Nat → Int32) (v_p2_tape : Nat → Int32) (v_p2_steps : Nat → Int32) (v_p2_wish : Nat → Int32) (v_p2_mark : Nat → Int32) (v_p2_bitsOf : Nat → Int32) (v_p2_sizeOf : Nat → Int32) (v_p2_number : Nat → Int64) (v_p2_moved : Nat → Int64) (x1 : Int32) (x2 : Int32), I0 v_p1_isKept v_p1_party_size v_p1_party_list v_p1_party_told v_p1_party_kinds v_p1_party_costs v_p1_party_terms v_p1_party_known v_p1_kept_size v_p1_kept_list v_p1_kept_told v_p1_kept_kinds v_p1_kept_costs v_p1_kept_terms v_p1_kept_known v_p1_tape_length v_p1_tape_place v_p1_tape_fault v_p1_tape_teller v_p1_tape_word v_p1_tape_bytes v_p1_telephone_queue v_p1_telephone_callsTo v_p1_telephone_firstCalled v_p1_sheets0_bits v_p1_sheets0_size v_p1_sheets0_numbers v_p1_sheets1_bits v_p1_sheets1_size v_p1_sheets1_numbers v_p1_sheets2_bits v_p1_sheets2_size v_p1_sheets2_numbers v_p1_sheets3_bits v_p1_sheets3_size v_p1_sheets3_numbers v_p1_findings v_p2_isKept v_p2_taped v_p2_at v_p2_fault v_p2_laid v_p2_open v_p2_s v_p2_keptS v_p2_statuses v_p2_pile v_p2_tape v_p2_steps v_p2_wish v_p2_mark v_p2_bitsOf v_p2_sizeOf v_p2_number v_p2_moved → ∃ (r1 : Int32) (k1 : (Nat → Int32) × (Nat → Int32)) (r2 : Int32) (k2 : (Nat → Int32) × (Nat → Int32) × (Nat → Int32)), fX4_against v_p1_party_size v_p1_party_kinds v_p1_party_terms v_p1_party_known v_p1_findings x1 x2 = some (r1, k1) ∧ fX5_against v_p2_s v_p2_statuses v_p2_pile v_p2_wish x1 x2 = some (r2, k2) ∧ r1 = r2 ∧ I1 v_p1_isKept v_p1_party_size v_p1_party_list v_p1_party_told v_p1_party_kinds v_p1_party_costs v_p1_party_terms k1.1 v_p1_kept_size v_p1_kept_list v_p1_kept_told v_p1_kept_kinds v_p1_kept_costs v_p1_kept_terms v_p1_kept_known v_p1_tape_length v_p1_tape_place v_p1_tape_fault v_p1_tape_teller v_p1_tape_word v_p1_tape_bytes v_p1_telephone_queue v_p1_telephone_callsTo v_p1_telephone_firstCalled v_p1_sheets0_bits v_p1_sheets0_size v_p1_sheets0_numbers v_p1_sheets1_bits v_p1_sheets1_size v_p1_sheets1_numbers v_p1_sheets2_bits v_p1_sheets2_size v_p1_sheets2_numbers v_p1_sheets3_bits v_p1_sheets3_size v_p1_sheets3_numbers k1.2 v_p2_isKept v_p2_taped v_p2_at v_p2_fault v_p2_laid v_p2_open v_p2_s v_p2_keptS k2.1 k2.2.1 v_p2_tape v_p2_steps k2.2.2 v_p2_mark v_p2_bitsOf v_p2_sizeOf v_p2_number v_p2_moved
def S_minds (I0 I1 : LT) : Prop := ∀ (v_p1_isKept : Int32) (v_p1_party_size : Int32) (v_p1_party_list : Int32) (v_p1_party_told : Int32) (v_p1_party_kinds : Nat → Int32) (v_p1_party_costs : Nat → Int32) (v_p1_party_terms : Nat → Int64) (v_p1_party_known : Nat → Int32) (v_p1_kept_size : Int32) (v_p1_kept_list : Int32) (v_p1_kept_told : Int32) (v_p1_kept_kinds : Nat → Int32) (v_p1_kept_costs : Nat → Int32) (v_p1_kept_terms : Nat → Int64) (v_p1_kept_known : Nat → Int32) (v_p1_tape_length : Int32) (v_p1_tape_place : Int32) (v_p1_tape_fault : Int32) (v_p1_tape_teller : Int32) (v_p1_tape_word : Int32) (v_p1_tape_bytes : Nat → Int32) (v_p1_telephone_queue : Nat → Int32) (v_p1_telephone_callsTo : Nat → Int32) (v_p1_telephone_firstCalled : Nat → Int32) (v_p1_sheets0_bits : Int32) (v_p1_sheets0_size : Int32) (v_p1_sheets0_numbers : Nat → Int64) (v_p1_sheets1_bits : Int32) (v_p1_sheets1_size : Int32) (v_p1_sheets1_numbers : Nat → Int64) (v_p1_sheets2_bits : Int32) (v_p1_sheets2_size : Int32) (v_p1_sheets2_numbers : Nat → Int64) (v_p1_sheets3_bits : Int32) (v_p1_sheets3_size : Int32) (v_p1_sheets3_numbers : Nat → Int64) (v_p1_findings : Nat → Int32) (v_p2_isKept : Int32) (v_p2_taped : Int32) (v_p2_at : Int32) (v_p2_fault : Int32) (v_p2_laid : Int32) (v_p2_open : Int32) (v_p2_s : Nat → Int32) (v_p2_keptS : Nat → Int32) (v_p2_statuses : Nat → Int32) (v_p2_pile : Nat → Int32) (v_p2_tape : Nat → Int32) (v_p2_steps : Nat → Int32) (v_p2_wish : Nat → Int32) (v_p2_mark : Nat → Int32) (v_p2_bitsOf : Nat → Int32) (v_p2_sizeOf : Nat → Int32) (v_p2_number : Nat → Int64) (v_p2_moved : Nat → Int64) (x1 : Int32), I0 v_p1_isKept v_p1_party_size v_p1_party_list v_p1_party_told v_p1_party_kinds v_p1_party_costs v_p1_party_terms v_p1_party_known v_p1_kept_size v_p1_kept_list v_p1_kept_told v_p1_kept_kinds v_p1_kept_costs v_p1_kept_terms v_p1_kept_known v_p1_tape_length v_p1_tape_place v_p1_tape_fault v_p1_tape_teller v_p1_tape_word v_p1_tape_bytes v_p1_telephone_queue v_p1_telephone_callsTo v_p1_telephone_firstCalled v_p1_sheets0_bits v_p1_sheets0_size v_p1_sheets0_numbers v_p1_sheets1_bits v_p1_sheets1_size v_p1_sheets1_numbers v_p1_sheets2_bits v_p1_sheets2_size v_p1_sheets2_numbers v_p1_sheets3_bits v_p1_sheets3_size v_p1_sheets3_numbers v_p1_findings v_p2_isKept v_p2_taped v_p2_at v_p2_fault v_p2_laid v_p2_open v_p2_s v_p2_keptS v_p2_statuses v_p2_pile v_p2_tape v_p2_steps v_p2_wish v_p2_mark v_p2_bitsOf v_p2_sizeOf v_p2_number v_p2_moved → ∃ (r1 : Int32) (k1 : (Nat → Int32) × (Nat → Int32)) (r2 : Int32) (k2 : (Nat → Int32) × (Nat → Int32) × (Nat → Int32)), fX4_minds v_p1_party_size v_p1_party_kinds v_p1_party_terms v_p1_party_known v_p1_findings x1 = some (r1, k1) ∧ fX5_minds v_p2_s v_p2_statuses v_p2_pile v_p2_wish x1 = some (r2, k2) ∧ r1 = r2 ∧ I1 v_p1_isKept v_p1_party_size v_p1_party_list v_p1_party_told v_p1_party_kinds v_p1_party_costs v_p1_party_terms k1.1 v_p1_kept_size v_p1_kept_list v_p1_kept_told v_p1_kept_kinds v_p1_kept_costs v_p1_kept_terms v_p1_kept_known v_p1_tape_length v_p1_tape_place v_p1_tape_fault v_p1_tape_teller v_p1_tape_word v_p1_tape_bytes v_p1_telephone_queue v_p1_telephone_callsTo v_p1_telephone_firstCalled v_p1_sheets0_bits v_p1_sheets0_size v_p1_sheets0_numbers v_p1_sheets1_bits v_p1_sheets1_size v_p1_sheets1_numbers v_p1_sheets2_bits v_p1_sheets2_size v_p1_sheets2_numbers v_p1_sheets3_bits v_p1_sheets3_size v_p1_sheets3_numbers k1.2 v_p2_isKept v_p2_taped v_p2_at v_p2_fault v_p2_laid v_p2_open v_p2_s v_p2_keptS k2.1 k2.2.1 v_p2_tape v_p2_steps k2.2.2 v_p2_mark v_p2_bitsOf v_p2_sizeOf v_p2_number v_p2_moved
def S_kind (I0 I1 : LT) : Prop := ∀ (v_p1_isKept : Int32) (v_p1_party_size : Int32) (v_p1_party_list : Int32) (v_p1_party_told : Int32) (v_p1_party_kinds : Nat → Int32) (v_p1_party_costs : Nat → Int32) (v_p1_party_terms : Nat → Int64) (v_p1_party_known : Nat → Int32) (v_p1_kept_size : Int32) (v_p1_kept_list : Int32) (v_p1_kept_told : Int32) (v_p1_kept_kinds : Nat → Int32) (v_p1_kept_costs : Nat → Int32) (v_p1_kept_terms : Nat → Int64) (v_p1_kept_known : Nat → Int32) (v_p1_tape_length : Int32) (v_p1_tape_place : Int32) (v_p1_tape_fault : Int32) (v_p1_tape_teller : Int32) (v_p1_tape_word : Int32) (v_p1_tape_bytes : Nat → Int32) (v_p1_telephone_queue : Nat → Int32) (v_p1_telephone_callsTo : Nat → Int32) (v_p1_telephone_firstCalled : Nat → Int32) (v_p1_sheets0_bits : Int32) (v_p1_sheets0_size : Int32) (v_p1_sheets0_numbers : Nat → Int64) (v_p1_sheets1_bits : Int32) (v_p1_sheets1_size : Int32) (v_p1_sheets1_numbers : Nat → Int64) (v_p1_sheets2_bits : Int32) (v_p1_sheets2_size : Int32) (v_p1_sheets2_numbers : Nat → Int64) (v_p1_sheets3_bits : Int32) (v_p1_sheets3_size : Int32) (v_p1_sheets3_numbers : Nat → Int64) (v_p1_findings : Nat → Int32) (v_p2_isKept : Int32) (v_p2_taped : Int32) (v_p2_at : Int32) (v_p2_fault : Int32) (v_p2_laid : Int32) (v_p2_open : Int32) (v_p2_s : Nat → Int32) (v_p2_keptS : Nat → Int32) (v_p2_statuses : Nat → Int32) (v_p2_pile : Nat → Int32) (v_p2_tape : Nat → Int32) (v_p2_steps : Nat → Int32) (v_p2_wish : Nat → Int32) (v_p2_mark : Nat → Int32) (v_p2_bitsOf : Nat → Int32) (v_p2_sizeOf : Nat → Int32) (v_p2_number : Nat → Int64) (v_p2_moved : Nat → Int64) (x1 : Int32), I0 v_p1_isKept v_p1_party_size v_p1_party_list v_p1_party_told v_p1_party_kinds v_p1_party_costs v_p1_party_terms v_p1_party_known v_p1_kept_size v_p1_kept_list v_p1_kept_told v_p1_kept_kinds v_p1_kept_costs v_p1_kept_terms v_p1_kept_known v_p1_tape_length v_p1_tape_place v_p1_tape_fault v_p1_tape_teller v_p1_tape_word v_p1_tape_bytes v_p1_telephone_queue v_p1_telephone_callsTo v_p1_telephone_firstCalled v_p1_sheets0_bits v_p1_sheets0_size v_p1_sheets0_numbers v_p1_sheets1_bits v_p1_sheets1_size v_p1_sheets1_numbers v_p1_sheets2_bits v_p1_sheets2_size v_p1_sheets2_numbers v_p1_sheets3_bits v_p1_sheets3_size v_p1_sheets3_numbers v_p1_findings v_p2_isKept v_p2_taped v_p2_at v_p2_fault v_p2_laid v_p2_open v_p2_s v_p2_keptS v_p2_statuses v_p2_pile v_p2_tape v_p2_steps v_p2_wish v_p2_mark v_p2_bitsOf v_p2_sizeOf v_p2_number v_p2_moved → ∃ (r1 : Int32) (k1 : (Nat → Int32) × (Nat → Int32)) (r2 : Int32) (k2 : (Nat → Int32) × (Nat → Int32) × (Nat → Int32) × (Nat → Int32)), fX4_kind v_p1_party_size v_p1_party_kinds v_p1_party_terms v_p1_party_known v_p1_findings x1 = some (r1, k1) ∧ fX5_kind v_p2_s v_p2_statuses v_p2_pile v_p2_wish x1 = some (r2, k2) ∧ r1 = r2 ∧ I1 v_p1_isKept v_p1_party_size v_p1_party_list v_p1_party_told v_p1_party_kinds v_p1_party_costs v_p1_party_terms k1.1 v_p1_kept_size v_p1_kept_list v_p1_kept_told v_p1_kept_kinds v_p1_kept_costs v_p1_kept_terms v_p1_kept_known v_p1_tape_length v_p1_tape_place v_p1_tape_fault v_p1_tape_teller v_p1_tape_word v_p1_tape_bytes v_p1_telephone_queue v_p1_telephone_callsTo v_p1_telephone_firstCalled v_p1_sheets0_bits v_p1_sheets0_size v_p1_sheets0_numbers v_p1_sheets1_bits v_p1_sheets1_size v_p1_sheets1_numbers v_p1_sheets2_bits v_p1_sheets2_size v_p1_sheets2_numbers v_p1_sheets3_bits v_p1_sheets3_size v_p1_sheets3_numbers k1.2 v_p2_isKept v_p2_taped v_p2_at v_p2_fault v_p2_laid v_p2_open k2.1 v_p2_keptS k2.2.1 k2.2.2.1 v_p2_tape v_p2_steps k2.2.2.2 v_p2_mark v_p2_bitsOf v_p2_sizeOf v_p2_number v_p2_moved
def S_sheet (I0 I1 : LT) : Prop := ∀ (v_p1_isKept : Int32) (v_p1_party_size : Int32) (v_p1_party_list : Int32) (v_p1_party_told : Int32) (v_p1_party_kinds : Nat → Int32) (v_p1_party_costs : Nat → Int32) (v_p1_party_terms : Nat → Int64) (v_p1_party_known : Nat → Int32) (v_p1_kept_size : Int32) (v_p1_kept_list : Int32) (v_p1_kept_told : Int32) (v_p1_kept_kinds : Nat → Int32) (v_p1_kept_costs : Nat → Int32) (v_p1_kept_terms : Nat → Int64) (v_p1_kept_known : Nat → Int32) (v_p1_tape_length : Int32) (v_p1_tape_place : Int32) (v_p1_tape_fault : Int32) (v_p1_tape_teller : Int32) (v_p1_tape_word : Int32) (v_p1_tape_bytes : Nat → Int32) (v_p1_telephone_queue : Nat → Int32) (v_p1_telephone_callsTo : Nat → Int32) (v_p1_telephone_firstCalled : Nat → Int32) (v_p1_sheets0_bits : Int32) (v_p1_sheets0_size : Int32) (v_p1_sheets0_numbers : Nat → Int64) (v_p1_sheets1_bits : Int32) (v_p1_sheets1_size : Int32) (v_p1_sheets1_numbers : Nat → Int64) (v_p1_sheets2_bits : Int32) (v_p1_sheets2_size : Int32) (v_p1_sheets2_numbers : Nat → Int64) (v_p1_sheets3_bits : Int32) (v_p1_sheets3_size : Int32) (v_p1_sheets3_numbers : Nat → Int64) (v_p1_findings : Nat → Int32) (v_p2_isKept : Int32) (v_p2_taped : Int32) (v_p2_at : Int32) (v_p2_fault : Int32) (v_p2_laid : Int32) (v_p2_open : Int32) (v_p2_s : Nat → Int32) (v_p2_keptS : Nat → Int32) (v_p2_statuses : Nat → Int32) (v_p2_pile : Nat → Int32) (v_p2_tape : Nat → Int32) (v_p2_steps : Nat → Int32) (v_p2_wish : Nat → Int32) (v_p2_mark : Nat → Int32) (v_p2_bitsOf : Nat → Int32) (v_p2_sizeOf : Nat → Int32) (v_p2_number : Nat → Int64) (v_p2_moved : Nat → Int64) (x1 : Int32) (x2 : Int32) (x3 : Int32), I0 v_p1_isKept v_p1_party_size v_p1_party_list v_p1_party_told v_p1_party_kinds v_p1_party_costs v_p1_party_terms v_p1_party_known v_p1_kept_size v_p1_kept_list v_p1_kept_told v_p1_kept_kinds v_p1_kept_costs v_p1_kept_terms v_p1_kept_known v_p1_tape_length v_p1_tape_place v_p1_tape_fault v_p1_tape_teller v_p1_tape_word v_p1_tape_bytes v_p1_telephone_queue v_p1_telephone_callsTo v_p1_telephone_firstCalled v_p1_sheets0_bits v_p1_sheets0_size v_p1_sheets0_numbers v_p1_sheets1_bits v_p1_sheets1_size v_p1_sheets1_numbers v_p1_sheets2_bits v_p1_sheets2_size v_p1_sheets2_numbers v_p1_sheets3_bits v_p1_sheets3_size v_p1_sheets3_numbers v_p1_findings v_p2_isKept v_p2_taped v_p2_at v_p2_fault v_p2_laid v_p2_open v_p2_s v_p2_keptS v_p2_statuses v_p2_pile v_p2_tape v_p2_steps v_p2_wish v_p2_mark v_p2_bitsOf v_p2_sizeOf v_p2_number v_p2_moved → ∃ (r1 : Int32) (k1 : Int32 × Int32 × (Nat → Int64) × Int32 × Int32 × (Nat → Int64) × Int32 × Int32 × (Nat → Int64) × Int32 × Int32 × (Nat → Int64) × (Nat → Int32)) (r2 : Int32) (k2 : (Nat → Int32) × (Nat → Int32) × (Nat → Int32) × (Nat → Int64)), fX4_sheet v_p1_sheets0_bits v_p1_sheets0_size v_p1_sheets0_numbers v_p1_sheets1_bits v_p1_sheets1_size v_p1_sheets1_numbers v_p1_sheets2_bits v_p1_sheets2_size v_p1_sheets2_numbers v_p1_sheets3_bits v_p1_sheets3_size v_p1_sheets3_numbers v_p1_findings x1 x2 x3 = some (r1, k1) ∧ fX5_sheet v_p2_statuses v_p2_bitsOf v_p2_sizeOf v_p2_number x1 x2 x3 = some (r2, k2) ∧ r1 = r2 ∧ I1 v_p1_isKept v_p1_party_size v_p1_party_list v_p1_party_told v_p1_party_kinds v_p1_party_costs v_p1_party_terms v_p1_party_known v_p1_kept_size v_p1_kept_list v_p1_kept_told v_p1_kept_kinds v_p1_kept_costs v_p1_kept_terms v_p1_kept_known v_p1_tape_length v_p1_tape_place v_p1_tape_fault v_p1_tape_teller v_p1_tape_word v_p1_tape_bytes v_p1_telephone_queue v_p1_telephone_callsTo v_p1_telephone_firstCalled k1.1 k1.2.1 k1.2.2.1 k1.2.2.2.1 k1.2.2.2.2.1 k1.2.2.2.2.2.1 k1.2.2.2.2.2.2.1 k1.2.2.2.2.2.2.2.1 k1.2.2.2.2.2.2.2.2.1 k1.2.2.2.2.2.2.2.2.2.1 k1.2.2.2.2.2.2.2.2.2.2.1 k1.2.2.2.2.2.2.2.2.2.2.2.1 k1.2.2.2.2.2.2.2.2.2.2.2.2 v_p2_isKept v_p2_taped v_p2_at v_p2_fault v_p2_laid v_p2_open v_p2_s v_p2_keptS k2.1 v_p2_pile v_p2_tape v_p2_steps v_p2_wish v_p2_mark k2.2.1 k2.2.2.1 k2.2.2.2 v_p2_moved
def S_write (I0 I1 : LT) : Prop := ∀ (v_p1_isKept : Int32) (v_p1_party_size : Int32) (v_p1_party_list : Int32) (v_p1_party_told : Int32) (v_p1_party_kinds : Nat → Int32) (v_p1_party_costs : Nat → Int32) (v_p1_party_terms : Nat → Int64) (v_p1_party_known : Nat → Int32) (v_p1_kept_size : Int32) (v_p1_kept_list : Int32) (v_p1_kept_told : Int32) (v_p1_kept_kinds : Nat → Int32) (v_p1_kept_costs : Nat → Int32) (v_p1_kept_terms : Nat → Int64) (v_p1_kept_known : Nat → Int32) (v_p1_tape_length : Int32) (v_p1_tape_place : Int32) (v_p1_tape_fault : Int32) (v_p1_tape_teller : Int32) (v_p1_tape_word : Int32) (v_p1_tape_bytes : Nat → Int32) (v_p1_telephone_queue : Nat → Int32) (v_p1_telephone_callsTo : Nat → Int32) (v_p1_telephone_firstCalled : Nat → Int32) (v_p1_sheets0_bits : Int32) (v_p1_sheets0_size : Int32) (v_p1_sheets0_numbers : Nat → Int64) (v_p1_sheets1_bits : Int32) (v_p1_sheets1_size : Int32) (v_p1_sheets1_numbers : Nat → Int64) (v_p1_sheets2_bits : Int32) (v_p1_sheets2_size : Int32) (v_p1_sheets2_numbers : Nat → Int64) (v_p1_sheets3_bits : Int32) (v_p1_sheets3_size : Int32) (v_p1_sheets3_numbers : Nat → Int64) (v_p1_findings : Nat → Int32) (v_p2_isKept : Int32) (v_p2_taped : Int32) (v_p2_at : Int32) (v_p2_fault : Int32) (v_p2_laid : Int32) (v_p2_open : Int32) (v_p2_s : Nat → Int32) (v_p2_keptS : Nat → Int32) (v_p2_statuses : Nat → Int32) (v_p2_pile : Nat → Int32) (v_p2_tape : Nat → Int32) (v_p2_steps : Nat → Int32) (v_p2_wish : Nat → Int32) (v_p2_mark : Nat → Int32) (v_p2_bitsOf : Nat → Int32) (v_p2_sizeOf : Nat → Int32) (v_p2_number : Nat → Int64) (v_p2_moved : Nat → Int64) (x1 : Int32) (x2 : Int32) (x3 : Int64), I0 v_p1_isKept v_p1_party_size v_p1_party_list v_p1_party_told v_p1_party_kinds v_p1_party_costs v_p1_party_terms v_p1_party_known v_p1_kept_size v_p1_kept_list v_p1_kept_told v_p1_kept_kinds v_p1_kept_costs v_p1_kept_terms v_p1_kept_known v_p1_tape_length v_p1_tape_place v_p1_tape_fault v_p1_tape_teller v_p1_tape_word v_p1_tape_bytes v_p1_telephone_queue v_p1_telephone_callsTo v_p1_telephone_firstCalled v_p1_sheets0_bits v_p1_sheets0_size v_p1_sheets0_numbers v_p1_sheets1_bits v_p1_sheets1_size v_p1_sheets1_numbers v_p1_sheets2_bits v_p1_sheets2_size v_p1_sheets2_numbers v_p1_sheets3_bits v_p1_sheets3_size v_p1_sheets3_numbers v_p1_findings v_p2_isKept v_p2_taped v_p2_at v_p2_fault v_p2_laid v_p2_open v_p2_s v_p2_keptS v_p2_statuses v_p2_pile v_p2_tape v_p2_steps v_p2_wish v_p2_mark v_p2_bitsOf v_p2_sizeOf v_p2_number v_p2_moved → ∃ (r1 : Int64) (k1 : (Nat → Int64) × (Nat → Int64) × (Nat → Int64) × (Nat → Int64) × (Nat → Int32)) (r2 : Int64) (k2 : (Nat → Int32) × (Nat → Int64)), fX4_write v_p1_sheets0_bits v_p1_sheets0_size v_p1_sheets0_numbers v_p1_sheets1_bits v_p1_sheets1_size v_p1_sheets1_numbers v_p1_sheets2_bits v_p1_sheets2_size v_p1_sheets2_numbers v_p1_sheets3_bits v_p1_sheets3_size v_p1_sheets3_numbers v_p1_findings x1 x2 x3 = some (r1, k1) ∧ fX5_write v_p2_statuses v_p2_bitsOf v_p2_sizeOf v_p2_number x1 x2 x3 = some (r2, k2) ∧ r1 = r2 ∧ I1 v_p1_isKept v_p1_party_size v_p1_party_list v_p1_party_told v_p1_party_kinds v_p1_party_costs v_p1_party_terms v_p1_party_known v_p1_kept_size v_p1_kept_list v_p1_kept_told v_p1_kept_kinds v_p1_kept_costs v_p1_kept_terms v_p1_kept_known v_p1_tape_length v_p1_tape_place v_p1_tape_fault v_p1_tape_teller v_p1_tape_word v_p1_tape_bytes v_p1_telephone_queue v_p1_telephone_callsTo v_p1_telephone_firstCalled v_p1_sheets0_bits v_p1_sheets0_size k1.1 v_p1_sheets1_bits v_p1_sheets1_size k1.2.1 v_p1_sheets2_bits v_p1_sheets2_size k1.2.2.1 v_p1_sheets3_bits v_p1_sheets3_size k1.2.2.2.1 k1.2.2.2.2 v_p2_isKept v_p2_taped v_p2_at v_p2_fault v_p2_laid v_p2_open v_p2_s v_p2_keptS k2.1 v_p2_pile v_p2_tape v_p2_steps v_p2_wish v_p2_mark v_p2_bitsOf v_p2_sizeOf k2.2 v_p2_moved
def S_copy (I0 I1 : LT) : Prop := ∀ (v_p1_isKept : Int32) (v_p1_party_size : Int32) (v_p1_party_list : Int32) (v_p1_party_told : Int32) (v_p1_party_kinds : Nat → Int32) (v_p1_party_costs : Nat → Int32) (v_p1_party_terms : Nat → Int64) (v_p1_party_known : Nat → Int32) (v_p1_kept_size : Int32) (v_p1_kept_list : Int32) (v_p1_kept_told : Int32) (v_p1_kept_kinds : Nat → Int32) (v_p1_kept_costs : Nat → Int32) (v_p1_kept_terms : Nat → Int64) (v_p1_kept_known : Nat → Int32) (v_p1_tape_length : Int32) (v_p1_tape_place : Int32) (v_p1_tape_fault : Int32) (v_p1_tape_teller : Int32) (v_p1_tape_word : Int32) (v_p1_tape_bytes : Nat → Int32) (v_p1_telephone_queue : Nat → Int32) (v_p1_telephone_callsTo : Nat → Int32) (v_p1_telephone_firstCalled : Nat → Int32) (v_p1_sheets0_bits : Int32) (v_p1_sheets0_size : Int32) (v_p1_sheets0_numbers : Nat → Int64) (v_p1_sheets1_bits : Int32) (v_p1_sheets1_size : Int32) (v_p1_sheets1_numbers : Nat → Int64) (v_p1_sheets2_bits : Int32) (v_p1_sheets2_size : Int32) (v_p1_sheets2_numbers : Nat → Int64) (v_p1_sheets3_bits : Int32) (v_p1_sheets3_size : Int32) (v_p1_sheets3_numbers : Nat → Int64) (v_p1_findings : Nat → Int32) (v_p2_isKept : Int32) (v_p2_taped : Int32) (v_p2_at : Int32) (v_p2_fault : Int32) (v_p2_laid : Int32) (v_p2_open : Int32) (v_p2_s : Nat → Int32) (v_p2_keptS : Nat → Int32) (v_p2_statuses : Nat → Int32) (v_p2_pile : Nat → Int32) (v_p2_tape : Nat → Int32) (v_p2_steps : Nat → Int32) (v_p2_wish : Nat → Int32) (v_p2_mark : Nat → Int32) (v_p2_bitsOf : Nat → Int32) (v_p2_sizeOf : Nat → Int32) (v_p2_number : Nat → Int64) (v_p2_moved : Nat → Int64) (x1 : Int32) (x2 : Int32) (x3 : Int32) (x4 : Int32) (x5 : Int32), I0 v_p1_isKept v_p1_party_size v_p1_party_list v_p1_party_told v_p1_party_kinds v_p1_party_costs v_p1_party_terms v_p1_party_known v_p1_kept_size v_p1_kept_list v_p1_kept_told v_p1_kept_kinds v_p1_kept_costs v_p1_kept_terms v_p1_kept_known v_p1_tape_length v_p1_tape_place v_p1_tape_fault v_p1_tape_teller v_p1_tape_word v_p1_tape_bytes v_p1_telephone_queue v_p1_telephone_callsTo v_p1_telephone_firstCalled v_p1_sheets0_bits v_p1_sheets0_size v_p1_sheets0_numbers v_p1_sheets1_bits v_p1_sheets1_size v_p1_sheets1_numbers v_p1_sheets2_bits v_p1_sheets2_size v_p1_sheets2_numbers v_p1_sheets3_bits v_p1_sheets3_size v_p1_sheets3_numbers v_p1_findings v_p2_isKept v_p2_taped v_p2_at v_p2_fault v_p2_laid v_p2_open v_p2_s v_p2_keptS v_p2_statuses v_p2_pile v_p2_tape v_p2_steps v_p2_wish v_p2_mark v_p2_bitsOf v_p2_sizeOf v_p2_number v_p2_moved → ∃ (r1 : Int32) (k1 : (Nat → Int64) × (Nat → Int64) × (Nat → Int64) × (Nat → Int64) × (Nat → Int32)) (r2 : Int32) (k2 : (Nat → Int32) × (Nat → Int64) × (Nat → Int64)), fX4_copy v_p1_sheets0_bits v_p1_sheets0_size v_p1_sheets0_numbers v_p1_sheets1_bits v_p1_sheets1_size v_p1_sheets1_numbers v_p1_sheets2_bits v_p1_sheets2_size v_p1_sheets2_numbers v_p1_sheets3_bits v_p1_sheets3_size v_p1_sheets3_numbers v_p1_findings x1 x2 x3 x4 x5 = some (r1, k1) ∧ fX5_copy v_p2_statuses v_p2_bitsOf v_p2_sizeOf v_p2_number v_p2_moved x1 x2 x3 x4 x5 = some (r2, k2) ∧ r1 = r2 ∧ I1 v_p1_isKept v_p1_party_size v_p1_party_list v_p1_party_told v_p1_party_kinds v_p1_party_costs v_p1_party_terms v_p1_party_known v_p1_kept_size v_p1_kept_list v_p1_kept_told v_p1_kept_kinds v_p1_kept_costs v_p1_kept_terms v_p1_kept_known v_p1_tape_length v_p1_tape_place v_p1_tape_fault v_p1_tape_teller v_p1_tape_word v_p1_tape_bytes v_p1_telephone_queue v_p1_telephone_callsTo v_p1_telephone_firstCalled v_p1_sheets0_bits v_p1_sheets0_size k1.1 v_p1_sheets1_bits v_p1_sheets1_size k1.2.1 v_p1_sheets2_bits v_p1_sheets2_size k1.2.2.1 v_p1_sheets3_bits v_p1_sheets3_size k1.2.2.2.1 k1.2.2.2.2 v_p2_isKept v_p2_taped v_p2_at v_p2_fault v_p2_laid v_p2_open v_p2_s v_p2_keptS k2.1 v_p2_pile v_p2_tape v_p2_steps v_p2_wish v_p2_mark v_p2_bitsOf v_p2_sizeOf k2.2.1 k2.2.2
def S_lays (I0 I1 : LT) : Prop := ∀ (v_p1_isKept : Int32) (v_p1_party_size : Int32) (v_p1_party_list : Int32) (v_p1_party_told : Int32) (v_p1_party_kinds : Nat → Int32) (v_p1_party_costs : Nat → Int32) (v_p1_party_terms : Nat → Int64) (v_p1_party_known : Nat → Int32) (v_p1_kept_size : Int32) (v_p1_kept_list : Int32) (v_p1_kept_told : Int32) (v_p1_kept_kinds : Nat → Int32) (v_p1_kept_costs : Nat → Int32) (v_p1_kept_terms : Nat → Int64) (v_p1_kept_known : Nat → Int32) (v_p1_tape_length : Int32) (v_p1_tape_place : Int32) (v_p1_tape_fault : Int32) (v_p1_tape_teller : Int32) (v_p1_tape_word : Int32) (v_p1_tape_bytes : Nat → Int32) (v_p1_telephone_queue : Nat → Int32) (v_p1_telephone_callsTo : Nat → Int32) (v_p1_telephone_firstCalled : Nat → Int32) (v_p1_sheets0_bits : Int32) (v_p1_sheets0_size : Int32) (v_p1_sheets0_numbers : Nat → Int64) (v_p1_sheets1_bits : Int32) (v_p1_sheets1_size : Int32) (v_p1_sheets1_numbers : Nat → Int64) (v_p1_sheets2_bits : Int32) (v_p1_sheets2_size : Int32) (v_p1_sheets2_numbers : Nat → Int64) (v_p1_sheets3_bits : Int32) (v_p1_sheets3_size : Int32) (v_p1_sheets3_numbers : Nat → Int64) (v_p1_findings : Nat → Int32) (v_p2_isKept : Int32) (v_p2_taped : Int32) (v_p2_at : Int32) (v_p2_fault : Int32) (v_p2_laid : Int32) (v_p2_open : Int32) (v_p2_s : Nat → Int32) (v_p2_keptS : Nat → Int32) (v_p2_statuses : Nat → Int32) (v_p2_pile : Nat → Int32) (v_p2_tape : Nat → Int32) (v_p2_steps : Nat → Int32) (v_p2_wish : Nat → Int32) (v_p2_mark : Nat → Int32) (v_p2_bitsOf : Nat → Int32) (v_p2_sizeOf : Nat → Int32) (v_p2_number : Nat → Int64) (v_p2_moved : Nat → Int64) (x1 : Int32), I0 v_p1_isKept v_p1_party_size v_p1_party_list v_p1_party_told v_p1_party_kinds v_p1_party_costs v_p1_party_terms v_p1_party_known v_p1_kept_size v_p1_kept_list v_p1_kept_told v_p1_kept_kinds v_p1_kept_costs v_p1_kept_terms v_p1_kept_known v_p1_tape_length v_p1_tape_place v_p1_tape_fault v_p1_tape_teller v_p1_tape_word v_p1_tape_bytes v_p1_telephone_queue v_p1_telephone_callsTo v_p1_telephone_firstCalled v_p1_sheets0_bits v_p1_sheets0_size v_p1_sheets0_numbers v_p1_sheets1_bits v_p1_sheets1_size v_p1_sheets1_numbers v_p1_sheets2_bits v_p1_sheets2_size v_p1_sheets2_numbers v_p1_sheets3_bits v_p1_sheets3_size v_p1_sheets3_numbers v_p1_findings v_p2_isKept v_p2_taped v_p2_at v_p2_fault v_p2_laid v_p2_open v_p2_s v_p2_keptS v_p2_statuses v_p2_pile v_p2_tape v_p2_steps v_p2_wish v_p2_mark v_p2_bitsOf v_p2_sizeOf v_p2_number v_p2_moved → ∃ (r1 : Int32) (k1 : Int32 × (Nat → Int32)) (r2 : Int32) (k2 : (Nat → Int32) × (Nat → Int32)), fX4_lays v_p1_party_size v_p1_party_list v_p1_sheets0_bits v_p1_sheets0_size v_p1_sheets0_numbers v_p1_sheets1_bits v_p1_sheets1_size v_p1_sheets1_numbers v_p1_sheets2_bits v_p1_sheets2_size v_p1_sheets2_numbers v_p1_sheets3_bits v_p1_sheets3_size v_p1_sheets3_numbers v_p1_findings x1 = some (r1, k1) ∧ fX5_lays v_p2_s v_p2_statuses v_p2_bitsOf v_p2_sizeOf v_p2_number x1 = some (r2, k2) ∧ r1 = r2 ∧ I1 v_p1_isKept v_p1_party_size k1.1 v_p1_party_told v_p1_party_kinds v_p1_party_costs v_p1_party_terms v_p1_party_known v_p1_kept_size v_p1_kept_list v_p1_kept_told v_p1_kept_kinds v_p1_kept_costs v_p1_kept_terms v_p1_kept_known v_p1_tape_length v_p1_tape_place v_p1_tape_fault v_p1_tape_teller v_p1_tape_word v_p1_tape_bytes v_p1_telephone_queue v_p1_telephone_callsTo v_p1_telephone_firstCalled v_p1_sheets0_bits v_p1_sheets0_size v_p1_sheets0_numbers v_p1_sheets1_bits v_p1_sheets1_size v_p1_sheets1_numbers v_p1_sheets2_bits v_p1_sheets2_size v_p1_sheets2_numbers v_p1_sheets3_bits v_p1_sheets3_size v_p1_sheets3_numbers k1.2 v_p2_isKept v_p2_taped v_p2_at v_p2_fault v_p2_laid v_p2_open k2.1 v_p2_keptS k2.2 v_p2_pile v_p2_tape v_p2_steps v_p2_wish v_p2_mark v_p2_bitsOf v_p2_sizeOf v_p2_number v_p2_moved
def S_book (I0 I1 : LT) : Prop := ∀ (v_p1_isKept : Int32) (v_p1_party_size : Int32) (v_p1_party_list : Int32) (v_p1_party_told : Int32) (v_p1_party_kinds : Nat → Int32) (v_p1_party_costs : Nat → Int32) (v_p1_party_terms : Nat → Int64) (v_p1_party_known : Nat → Int32) (v_p1_kept_size : Int32) (v_p1_kept_list : Int32) (v_p1_kept_told : Int32) (v_p1_kept_kinds : Nat → Int32) (v_p1_kept_costs : Nat → Int32) (v_p1_kept_terms : Nat → Int64) (v_p1_kept_known : Nat → Int32) (v_p1_tape_length : Int32) (v_p1_tape_place : Int32) (v_p1_tape_fault : Int32) (v_p1_tape_teller : Int32) (v_p1_tape_word : Int32) (v_p1_tape_bytes : Nat → Int32) (v_p1_telephone_queue : Nat → Int32) (v_p1_telephone_callsTo : Nat → Int32) (v_p1_telephone_firstCalled : Nat → Int32) (v_p1_sheets0_bits : Int32) (v_p1_sheets0_size : Int32) (v_p1_sheets0_numbers : Nat → Int64) (v_p1_sheets1_bits : Int32) (v_p1_sheets1_size : Int32) (v_p1_sheets1_numbers : Nat → Int64) (v_p1_sheets2_bits : Int32) (v_p1_sheets2_size : Int32) (v_p1_sheets2_numbers : Nat → Int64) (v_p1_sheets3_bits : Int32) (v_p1_sheets3_size : Int32) (v_p1_sheets3_numbers : Nat → Int64) (v_p1_findings : Nat → Int32) (v_p2_isKept : Int32) (v_p2_taped : Int32) (v_p2_at : Int32) (v_p2_fault : Int32) (v_p2_laid : Int32) (v_p2_open : Int32) (v_p2_s : Nat → Int32) (v_p2_keptS : Nat → Int32) (v_p2_statuses : Nat → Int32) (v_p2_pile : Nat → Int32) (v_p2_tape : Nat → Int32) (v_p2_steps : Nat → Int32) (v_p2_wish : Nat → Int32) (v_p2_mark : Nat → Int32) (v_p2_bitsOf : Nat → Int32) (v_p2_sizeOf : Nat → Int32) (v_p2_number : Nat → Int64) (v_p2_moved : Nat → Int64) (x1 : Int32), I0 v_p1_isKept v_p1_party_size v_p1_party_list v_p1_party_told v_p1_party_kinds v_p1_party_costs v_p1_party_terms v_p1_party_known v_p1_kept_size v_p1_kept_list v_p1_kept_told v_p1_kept_kinds v_p1_kept_costs v_p1_kept_terms v_p1_kept_known v_p1_tape_length v_p1_tape_place v_p1_tape_fault v_p1_tape_teller v_p1_tape_word v_p1_tape_bytes v_p1_telephone_queue v_p1_telephone_callsTo v_p1_telephone_firstCalled v_p1_sheets0_bits v_p1_sheets0_size v_p1_sheets0_numbers v_p1_sheets1_bits v_p1_sheets1_size v_p1_sheets1_numbers v_p1_sheets2_bits v_p1_sheets2_size v_p1_sheets2_numbers v_p1_sheets3_bits v_p1_sheets3_size v_p1_sheets3_numbers v_p1_findings v_p2_isKept v_p2_taped v_p2_at v_p2_fault v_p2_laid v_p2_open v_p2_s v_p2_keptS v_p2_statuses v_p2_pile v_p2_tape v_p2_steps v_p2_wish v_p2_mark v_p2_bitsOf v_p2_sizeOf v_p2_number v_p2_moved → ∃ (r1 : Int32) (k1 : (Nat → Int32) × (Nat → Int64) × (Nat → Int64) × (Nat → Int64) × (Nat → Int64) × (Nat → Int32)) (r2 : Int32) (k2 : (Nat → Int32) × (Nat → Int32) × (Nat → Int64)), fX4_book v_p1_party_size v_p1_party_list v_p1_party_kinds v_p1_party_terms v_p1_party_known v_p1_sheets0_bits v_p1_sheets0_size v_p1_sheets0_numbers v_p1_sheets1_bits v_p1_sheets1_size v_p1_sheets1_numbers v_p1_sheets2_bits v_p1_sheets2_size v_p1_sheets2_numbers v_p1_sheets3_bits v_p1_sheets3_size v_p1_sheets3_numbers v_p1_findings x1 = some (r1, k1) ∧ fX5_book v_p2_s v_p2_statuses v_p2_pile v_p2_bitsOf v_p2_sizeOf v_p2_number x1 = some (r2, k2) ∧ r1 = r2 ∧ I1 v_p1_isKept v_p1_party_size v_p1_party_list v_p1_party_told v_p1_party_kinds v_p1_party_costs v_p1_party_terms k1.1 v_p1_kept_size v_p1_kept_list v_p1_kept_told v_p1_kept_kinds v_p1_kept_costs v_p1_kept_terms v_p1_kept_known v_p1_tape_length v_p1_tape_place v_p1_tape_fault v_p1_tape_teller v_p1_tape_word v_p1_tape_bytes v_p1_telephone_queue v_p1_telephone_callsTo v_p1_telephone_firstCalled v_p1_sheets0_bits v_p1_sheets0_size k1.2.1 v_p1_sheets1_bits v_p1_sheets1_size k1.2.2.1 v_p1_sheets2_bits v_p1_sheets2_size k1.2.2.2.1 v_p1_sheets3_bits v_p1_sheets3_size k1.2.2.2.2.1 k1.2.2.2.2.2 v_p2_isKept v_p2_taped v_p2_at v_p2_fault v_p2_laid v_p2_open v_p2_s v_p2_keptS k2.1 k2.2.1 v_p2_tape v_p2_steps v_p2_wish v_p2_mark v_p2_bitsOf v_p2_sizeOf k2.2.2 v_p2_moved
def S_read (I0 I1 : LT) : Prop := ∀ (v_p1_isKept : Int32) (v_p1_party_size : Int32) (v_p1_party_list : Int32) (v_p1_party_told : Int32) (v_p1_party_kinds : Nat → Int32) (v_p1_party_costs : Nat → Int32) (v_p1_party_terms : Nat → Int64) (v_p1_party_known : Nat → Int32) (v_p1_kept_size : Int32) (v_p1_kept_list : Int32) (v_p1_kept_told : Int32) (v_p1_kept_kinds : Nat → Int32) (v_p1_kept_costs : Nat → Int32) (v_p1_kept_terms : Nat → Int64) (v_p1_kept_known : Nat → Int32) (v_p1_tape_length : Int32) (v_p1_tape_place : Int32) (v_p1_tape_fault : Int32) (v_p1_tape_teller : Int32) (v_p1_tape_word : Int32) (v_p1_tape_bytes : Nat → Int32) (v_p1_telephone_queue : Nat → Int32) (v_p1_telephone_callsTo : Nat → Int32) (v_p1_telephone_firstCalled : Nat → Int32) (v_p1_sheets0_bits : Int32) (v_p1_sheets0_size : Int32) (v_p1_sheets0_numbers : Nat → Int64) (v_p1_sheets1_bits : Int32) (v_p1_sheets1_size : Int32) (v_p1_sheets1_numbers : Nat → Int64) (v_p1_sheets2_bits : Int32) (v_p1_sheets2_size : Int32) (v_p1_sheets2_numbers : Nat → Int64) (v_p1_sheets3_bits : Int32) (v_p1_sheets3_size : Int32) (v_p1_sheets3_numbers : Nat → Int64) (v_p1_findings : Nat → Int32) (v_p2_isKept : Int32) (v_p2_taped : Int32) (v_p2_at : Int32) (v_p2_fault : Int32) (v_p2_laid : Int32) (v_p2_open : Int32) (v_p2_s : Nat → Int32) (v_p2_keptS : Nat → Int32) (v_p2_statuses : Nat → Int32) (v_p2_pile : Nat → Int32) (v_p2_tape : Nat → Int32) (v_p2_steps : Nat → Int32) (v_p2_wish : Nat → Int32) (v_p2_mark : Nat → Int32) (v_p2_bitsOf : Nat → Int32) (v_p2_sizeOf : Nat → Int32) (v_p2_number : Nat → Int64) (v_p2_moved : Nat → Int64) (x1 : Int32), I0 v_p1_isKept v_p1_party_size v_p1_party_list v_p1_party_told v_p1_party_kinds v_p1_party_costs v_p1_party_terms v_p1_party_known v_p1_kept_size v_p1_kept_list v_p1_kept_told v_p1_kept_kinds v_p1_kept_costs v_p1_kept_terms v_p1_kept_known v_p1_tape_length v_p1_tape_place v_p1_tape_fault v_p1_tape_teller v_p1_tape_word v_p1_tape_bytes v_p1_telephone_queue v_p1_telephone_callsTo v_p1_telephone_firstCalled v_p1_sheets0_bits v_p1_sheets0_size v_p1_sheets0_numbers v_p1_sheets1_bits v_p1_sheets1_size v_p1_sheets1_numbers v_p1_sheets2_bits v_p1_sheets2_size v_p1_sheets2_numbers v_p1_sheets3_bits v_p1_sheets3_size v_p1_sheets3_numbers v_p1_findings v_p2_isKept v_p2_taped v_p2_at v_p2_fault v_p2_laid v_p2_open v_p2_s v_p2_keptS v_p2_statuses v_p2_pile v_p2_tape v_p2_steps v_p2_wish v_p2_mark v_p2_bitsOf v_p2_sizeOf v_p2_number v_p2_moved → ∃ (r1 : Int32) (k1 : (Nat → Int32) × (Nat → Int32)) (r2 : Int32) (k2 : (Nat → Int32) × (Nat → Int32) × (Nat → Int32)), fX4_read v_p1_party_size v_p1_party_kinds v_p1_party_terms v_p1_party_known v_p1_sheets0_bits v_p1_sheets0_size v_p1_sheets0_numbers v_p1_sheets1_bits v_p1_sheets1_size v_p1_sheets1_numbers v_p1_sheets2_bits v_p1_sheets2_size v_p1_sheets2_numbers v_p1_sheets3_bits v_p1_sheets3_size v_p1_sheets3_numbers v_p1_findings x1 = some (r1, k1) ∧ fX5_read v_p2_s v_p2_statuses v_p2_pile v_p2_bitsOf v_p2_sizeOf v_p2_number x1 = some (r2, k2) ∧ r1 = r2 ∧ I1 v_p1_isKept v_p1_party_size v_p1_party_list v_p1_party_told v_p1_party_kinds v_p1_party_costs v_p1_party_terms k1.1 v_p1_kept_size v_p1_kept_list v_p1_kept_told v_p1_kept_kinds v_p1_kept_costs v_p1_kept_terms v_p1_kept_known v_p1_tape_length v_p1_tape_place v_p1_tape_fault v_p1_tape_teller v_p1_tape_word v_p1_tape_bytes v_p1_telephone_queue v_p1_telephone_callsTo v_p1_telephone_firstCalled v_p1_sheets0_bits v_p1_sheets0_size v_p1_sheets0_numbers v_p1_sheets1_bits v_p1_sheets1_size v_p1_sheets1_numbers v_p1_sheets2_bits v_p1_sheets2_size v_p1_sheets2_numbers v_p1_sheets3_bits v_p1_sheets3_size v_p1_sheets3_numbers k1.2 v_p2_isKept v_p2_taped v_p2_at v_p2_fault v_p2_laid v_p2_open k2.1 v_p2_keptS k2.2.1 k2.2.2 v_p2_tape v_p2_steps v_p2_wish v_p2_mark v_p2_bitsOf v_p2_sizeOf v_p2_number v_p2_moved
def S0_read (I0 I1 : LT) : Prop := ∀ (v_p1_isKept : Int32) (v_p1_party_size : Int32) (v_p1_party_list : Int32) (v_p1_party_told : Int32) (v_p1_party_kinds : Nat → Int32) (v_p1_party_costs : Nat → Int32) (v_p1_party_terms : Nat → Int64) (v_p1_party_known : Nat → Int32) (v_p1_kept_size : Int32) (v_p1_kept_list : Int32) (v_p1_kept_told : Int32) (v_p1_kept_kinds : Nat → Int32) (v_p1_kept_costs : Nat → Int32) (v_p1_kept_terms : Nat → Int64) (v_p1_kept_known : Nat → Int32) (v_p1_tape_length : Int32) (v_p1_tape_place : Int32) (v_p1_tape_fault : Int32) (v_p1_tape_teller : Int32) (v_p1_tape_word : Int32) (v_p1_tape_bytes : Nat → Int32) (v_p1_telephone_queue : Nat → Int32) (v_p1_telephone_callsTo : Nat → Int32) (v_p1_telephone_firstCalled : Nat → Int32) (v_p1_sheets0_bits : Int32) (v_p1_sheets0_size : Int32) (v_p1_sheets0_numbers : Nat → Int64) (v_p1_sheets1_bits : Int32) (v_p1_sheets1_size : Int32) (v_p1_sheets1_numbers : Nat → Int64) (v_p1_sheets2_bits : Int32) (v_p1_sheets2_size : Int32) (v_p1_sheets2_numbers : Nat → Int64) (v_p1_sheets3_bits : Int32) (v_p1_sheets3_size : Int32) (v_p1_sheets3_numbers : Nat → Int64) (v_p1_findings : Nat → Int32) (v_p2_isKept : Int32) (v_p2_taped : Int32) (v_p2_at : Int32) (v_p2_fault : Int32) (v_p2_laid : Int32) (v_p2_open : Int32) (v_p2_s : Nat → Int32) (v_p2_keptS : Nat → Int32) (v_p2_statuses : Nat → Int32) (v_p2_pile : Nat → Int32) (v_p2_tape : Nat → Int32) (v_p2_steps : Nat → Int32) (v_p2_wish : Nat → Int32) (v_p2_mark : Nat → Int32) (v_p2_bitsOf : Nat → Int32) (v_p2_sizeOf : Nat → Int32) (v_p2_number : Nat → Int64) (v_p2_moved : Nat → Int64) (x1 : Int32), I0 v_p1_isKept v_p1_party_size v_p1_party_list v_p1_party_told v_p1_party_kinds v_p1_party_costs v_p1_party_terms v_p1_party_known v_p1_kept_size v_p1_kept_list v_p1_kept_told v_p1_kept_kinds v_p1_kept_costs v_p1_kept_terms v_p1_kept_known v_p1_tape_length v_p1_tape_place v_p1_tape_fault v_p1_tape_teller v_p1_tape_word v_p1_tape_bytes v_p1_telephone_queue v_p1_telephone_callsTo v_p1_telephone_firstCalled v_p1_sheets0_bits v_p1_sheets0_size v_p1_sheets0_numbers v_p1_sheets1_bits v_p1_sheets1_size v_p1_sheets1_numbers v_p1_sheets2_bits v_p1_sheets2_size v_p1_sheets2_numbers v_p1_sheets3_bits v_p1_sheets3_size v_p1_sheets3_numbers v_p1_findings v_p2_isKept v_p2_taped v_p2_at v_p2_fault v_p2_laid v_p2_open v_p2_s v_p2_keptS v_p2_statuses v_p2_pile v_p2_tape v_p2_steps v_p2_wish v_p2_mark v_p2_bitsOf v_p2_sizeOf v_p2_number v_p2_moved → ∃ (r1 : Int32) (k1 : (Nat → Int32) × (Nat → Int32)) (r2 : Int32) (k2 : (Nat → Int32) × (Nat → Int32) × (Nat → Int32)), fX4_read v_p1_party_size v_p1_party_kinds v_p1_party_terms v_p1_party_known v_p1_sheets0_bits v_p1_sheets0_size v_p1_sheets0_numbers v_p1_sheets1_bits v_p1_sheets1_size v_p1_sheets1_numbers v_p1_sheets2_bits v_p1_sheets2_size v_p1_sheets2_numbers v_p1_sheets3_bits v_p1_sheets3_size v_p1_sheets3_numbers v_p1_findings x1 = some (r1, k1) ∧ fX5_read v_p2_s v_p2_statuses v_p2_pile v_p2_bitsOf v_p2_sizeOf v_p2_number x1 = some (r2, k2) ∧ I1 v_p1_isKept v_p1_party_size v_p1_party_list v_p1_party_told v_p1_party_kinds v_p1_party_costs v_p1_party_terms k1.1 v_p1_kept_size v_p1_kept_list v_p1_kept_told v_p1_kept_kinds v_p1_kept_costs v_p1_kept_terms v_p1_kept_known v_p1_tape_length v_p1_tape_place v_p1_tape_fault v_p1_tape_teller v_p1_tape_word v_p1_tape_bytes v_p1_telephone_queue v_p1_telephone_callsTo v_p1_telephone_firstCalled v_p1_sheets0_bits v_p1_sheets0_size v_p1_sheets0_numbers v_p1_sheets1_bits v_p1_sheets1_size v_p1_sheets1_numbers v_p1_sheets2_bits v_p1_sheets2_size v_p1_sheets2_numbers v_p1_sheets3_bits v_p1_sheets3_size v_p1_sheets3_numbers k1.2 v_p2_isKept v_p2_taped v_p2_at v_p2_fault v_p2_laid v_p2_open k2.1 v_p2_keptS k2.2.1 k2.2.2 v_p2_tape v_p2_steps v_p2_wish v_p2_mark v_p2_bitsOf v_p2_sizeOf v_p2_number v_p2_moved
def S_image (I0 I1 : LT) : Prop := ∀ (v_p1_isKept : Int32) (v_p1_party_size : Int32) (v_p1_party_list : Int32) (v_p1_party_told : Int32) (v_p1_party_kinds : Nat → Int32) (v_p1_party_costs : Nat → Int32) (v_p1_party_terms : Nat → Int64) (v_p1_party_known : Nat → Int32) (v_p1_kept_size : Int32) (v_p1_kept_list : Int32) (v_p1_kept_told : Int32) (v_p1_kept_kinds : Nat → Int32) (v_p1_kept_costs : Nat → Int32) (v_p1_kept_terms : Nat → Int64) (v_p1_kept_known : Nat → Int32) (v_p1_tape_length : Int32) (v_p1_tape_place : Int32) (v_p1_tape_fault : Int32) (v_p1_tape_teller : Int32) (v_p1_tape_word : Int32) (v_p1_tape_bytes : Nat → Int32) (v_p1_telephone_queue : Nat → Int32) (v_p1_telephone_callsTo : Nat → Int32) (v_p1_telephone_firstCalled : Nat → Int32) (v_p1_sheets0_bits : Int32) (v_p1_sheets0_size : Int32) (v_p1_sheets0_numbers : Nat → Int64) (v_p1_sheets1_bits : Int32) (v_p1_sheets1_size : Int32) (v_p1_sheets1_numbers : Nat → Int64) (v_p1_sheets2_bits : Int32) (v_p1_sheets2_size : Int32) (v_p1_sheets2_numbers : Nat → Int64) (v_p1_sheets3_bits : Int32) (v_p1_sheets3_size : Int32) (v_p1_sheets3_numbers : Nat → Int64) (v_p1_findings : Nat → Int32) (v_p2_isKept : Int32) (v_p2_taped : Int32) (v_p2_at : Int32) (v_p2_fault : Int32) (v_p2_laid : Int32) (v_p2_open : Int32) (v_p2_s : Nat → Int32) (v_p2_keptS : Nat → Int32) (v_p2_statuses : Nat → Int32) (v_p2_pile : Nat → Int32) (v_p2_tape : Nat → Int32) (v_p2_steps : Nat → Int32) (v_p2_wish : Nat → Int32) (v_p2_mark : Nat → Int32) (v_p2_bitsOf : Nat → Int32) (v_p2_sizeOf : Nat → Int32) (v_p2_number : Nat → Int64) (v_p2_moved : Nat → Int64), I0 v_p1_isKept v_p1_party_size v_p1_party_list v_p1_party_told v_p1_party_kinds v_p1_party_costs v_p1_party_terms v_p1_party_known v_p1_kept_size v_p1_kept_list v_p1_kept_told v_p1_kept_kinds v_p1_kept_costs v_p1_kept_terms v_p1_kept_known v_p1_tape_length v_p1_tape_place v_p1_tape_fault v_p1_tape_teller v_p1_tape_word v_p1_tape_bytes v_p1_telephone_queue v_p1_telephone_callsTo v_p1_telephone_firstCalled v_p1_sheets0_bits v_p1_sheets0_size v_p1_sheets0_numbers v_p1_sheets1_bits v_p1_sheets1_size v_p1_sheets1_numbers v_p1_sheets2_bits v_p1_sheets2_size v_p1_sheets2_numbers v_p1_sheets3_bits v_p1_sheets3_size v_p1_sheets3_numbers v_p1_findings v_p2_isKept v_p2_taped v_p2_at v_p2_fault v_p2_laid v_p2_open v_p2_s v_p2_keptS v_p2_statuses v_p2_pile v_p2_tape v_p2_steps v_p2_wish v_p2_mark v_p2_bitsOf v_p2_sizeOf v_p2_number v_p2_moved → ∃ (r1 : Int32) (k1 : Int32 × Int32 × Int32 × Int32 × (Nat → Int32) × (Nat → Int32) × (Nat → Int64) × (Nat → Int32)) (r2 : Int32) (k2 : Int32 × (Nat → Int32)), fX4_image v_p1_isKept v_p1_party_size v_p1_party_list v_p1_party_told v_p1_party_kinds v_p1_party_costs v_p1_party_terms v_p1_kept_size v_p1_kept_list v_p1_kept_told v_p1_kept_kinds v_p1_kept_costs v_p1_kept_terms v_p1_kept_known = some (r1, k1) ∧ fX5_image v_p2_isKept v_p2_s v_p2_keptS = some (r2, k2) ∧ r1 = r2 ∧ I1 k1.1 v_p1_party_size v_p1_party_list v_p1_party_told v_p1_party_kinds v_p1_party_costs v_p1_party_terms v_p1_party_known k1.2.1 k1.2.2.1 k1.2.2.2.1 k1.2.2.2.2.1 k1.2.2.2.2.2.1 k1.2.2.2.2.2.2.1 k1.2.2.2.2.2.2.2 v_p1_tape_length v_p1_tape_place v_p1_tape_fault v_p1_tape_teller v_p1_tape_word v_p1_tape_bytes v_p1_telephone_queue v_p1_telephone_callsTo v_p1_telephone_firstCalled v_p1_sheets0_bits v_p1_sheets0_size v_p1_sheets0_numbers v_p1_sheets1_bits v_p1_sheets1_size v_p1_sheets1_numbers v_p1_sheets2_bits v_p1_sheets2_size v_p1_sheets2_numbers v_p1_sheets3_bits v_p1_sheets3_size v_p1_sheets3_numbers v_p1_findings k2.1 v_p2_taped v_p2_at v_p2_fault v_p2_laid v_p2_open v_p2_s k2.2 v_p2_statuses v_p2_pile v_p2_tape v_p2_steps v_p2_wish v_p2_mark v_p2_bitsOf v_p2_sizeOf v_p2_number v_p2_moved
def S_undo (I0 I1 : LT) : Prop := ∀ (v_p1_isKept : Int32) (v_p1_party_size : Int32) (v_p1_party_list : Int32) (v_p1_party_told : Int32) (v_p1_party_kinds : Nat → Int32) (v_p1_party_costs : Nat → Int32) (v_p1_party_terms : Nat → Int64) (v_p1_party_known : Nat → Int32) (v_p1_kept_size : Int32) (v_p1_kept_list : Int32) (v_p1_kept_told : Int32) (v_p1_kept_kinds : Nat → Int32) (v_p1_kept_costs : Nat → Int32) (v_p1_kept_terms : Nat → Int64) (v_p1_kept_known : Nat → Int32) (v_p1_tape_length : Int32) (v_p1_tape_place : Int32) (v_p1_tape_fault : Int32) (v_p1_tape_teller : Int32) (v_p1_tape_word : Int32) (v_p1_tape_bytes : Nat → Int32) (v_p1_telephone_queue : Nat → Int32) (v_p1_telephone_callsTo : Nat → Int32) (v_p1_telephone_firstCalled : Nat → Int32) (v_p1_sheets0_bits : Int32) (v_p1_sheets0_size : Int32) (v_p1_sheets0_numbers : Nat → Int64) (v_p1_sheets1_bits : Int32) (v_p1_sheets1_size : Int32) (v_p1_sheets1_numbers : Nat → Int64) (v_p1_sheets2_bits : Int32) (v_p1_sheets2_size : Int32) (v_p1_sheets2_numbers : Nat → Int64) (v_p1_sheets3_bits : Int32) (v_p1_sheets3_size : Int32) (v_p1_sheets3_numbers : Nat → Int64) (v_p1_findings : Nat → Int32) (v_p2_isKept : Int32) (v_p2_taped : Int32) (v_p2_at : Int32) (v_p2_fault : Int32) (v_p2_laid : Int32) (v_p2_open : Int32) (v_p2_s : Nat → Int32) (v_p2_keptS : Nat → Int32) (v_p2_statuses : Nat → Int32) (v_p2_pile : Nat → Int32) (v_p2_tape : Nat → Int32) (v_p2_steps : Nat → Int32) (v_p2_wish : Nat → Int32) (v_p2_mark : Nat → Int32) (v_p2_bitsOf : Nat → Int32) (v_p2_sizeOf : Nat → Int32) (v_p2_number : Nat → Int64) (v_p2_moved : Nat → Int64), I0 v_p1_isKept v_p1_party_size v_p1_party_list v_p1_party_told v_p1_party_kinds v_p1_party_costs v_p1_party_terms v_p1_party_known v_p1_kept_size v_p1_kept_list v_p1_kept_told v_p1_kept_kinds v_p1_kept_costs v_p1_kept_terms v_p1_kept_known v_p1_tape_length v_p1_tape_place v_p1_tape_fault v_p1_tape_teller v_p1_tape_word v_p1_tape_bytes v_p1_telephone_queue v_p1_telephone_callsTo v_p1_telephone_firstCalled v_p1_sheets0_bits v_p1_sheets0_size v_p1_sheets0_numbers v_p1_sheets1_bits v_p1_sheets1_size v_p1_sheets1_numbers v_p1_sheets2_bits v_p1_sheets2_size v_p1_sheets2_numbers v_p1_sheets3_bits v_p1_sheets3_size v_p1_sheets3_numbers v_p1_findings v_p2_isKept v_p2_taped v_p2_at v_p2_fault v_p2_laid v_p2_open v_p2_s v_p2_keptS v_p2_statuses v_p2_pile v_p2_tape v_p2_steps v_p2_wish v_p2_mark v_p2_bitsOf v_p2_sizeOf v_p2_number v_p2_moved → ∃ (r1 : Int32) (k1 : Int32 × Int32 × Int32 × (Nat → Int32) × (Nat → Int32) × (Nat → Int64) × (Nat → Int32) × (Nat → Int32)) (r2 : Int32) (k2 : (Nat → Int32) × (Nat → Int32)), fX4_undo v_p1_isKept v_p1_party_size v_p1_party_list v_p1_party_told v_p1_party_kinds v_p1_party_costs v_p1_party_terms v_p1_party_known v_p1_kept_size v_p1_kept_list v_p1_kept_told v_p1_kept_kinds v_p1_kept_costs v_p1_kept_terms v_p1_findings = some (r1, k1) ∧ fX5_undo v_p2_isKept v_p2_s v_p2_keptS v_p2_statuses = some (r2, k2) ∧ r1 = r2 ∧ I1 v_p1_isKept k1.1 k1.2.1 k1.2.2.1 k1.2.2.2.1 k1.2.2.2.2.1 k1.2.2.2.2.2.1 k1.2.2.2.2.2.2.1 v_p1_kept_size v_p1_kept_list v_p1_kept_told v_p1_kept_kinds v_p1_kept_costs v_p1_kept_terms v_p1_kept_known v_p1_tape_length v_p1_tape_place v_p1_tape_fault v_p1_tape_teller v_p1_tape_word v_p1_tape_bytes v_p1_telephone_queue v_p1_telephone_callsTo v_p1_telephone_firstCalled v_p1_sheets0_bits v_p1_sheets0_size v_p1_sheets0_numbers v_p1_sheets1_bits v_p1_sheets1_size v_p1_sheets1_numbers v_p1_sheets2_bits v_p1_sheets2_size v_p1_sheets2_numbers v_p1_sheets3_bits v_p1_sheets3_size v_p1_sheets3_numbers k1.2.2.2.2.2.2.2 v_p2_isKept v_p2_taped v_p2_at v_p2_fault v_p2_laid v_p2_open k2.1 v_p2_keptS k2.2 v_p2_pile v_p2_tape v_p2_steps v_p2_wish v_p2_mark v_p2_bitsOf v_p2_sizeOf v_p2_number v_p2_moved
def S_tear (I0 I1 : LT) : Prop := ∀ (v_p1_isKept : Int32) (v_p1_party_size : Int32) (v_p1_party_list : Int32) (v_p1_party_told : Int32) (v_p1_party_kinds : Nat → Int32) (v_p1_party_costs : Nat → Int32) (v_p1_party_terms : Nat → Int64) (v_p1_party_known : Nat → Int32) (v_p1_kept_size : Int32) (v_p1_kept_list : Int32) (v_p1_kept_told : Int32) (v_p1_kept_kinds : Nat → Int32) (v_p1_kept_costs : Nat → Int32) (v_p1_kept_terms : Nat → Int64) (v_p1_kept_known : Nat → Int32) (v_p1_tape_length : Int32) (v_p1_tape_place : Int32) (v_p1_tape_fault : Int32) (v_p1_tape_teller : Int32) (v_p1_tape_word : Int32) (v_p1_tape_bytes : Nat → Int32) (v_p1_telephone_queue : Nat → Int32) (v_p1_telephone_callsTo : Nat → Int32) (v_p1_telephone_firstCalled : Nat → Int32) (v_p1_sheets0_bits : Int32) (v_p1_sheets0_size : Int32) (v_p1_sheets0_numbers : Nat → Int64) (v_p1_sheets1_bits : Int32) (v_p1_sheets1_size : Int32) (v_p1_sheets1_numbers : Nat → Int64) (v_p1_sheets2_bits : Int32) (v_p1_sheets2_size : Int32) (v_p1_sheets2_numbers : Nat → Int64) (v_p1_sheets3_bits : Int32) (v_p1_sheets3_size : Int32) (v_p1_sheets3_numbers : Nat → Int64) (v_p1_findings : Nat → Int32) (v_p2_isKept : Int32) (v_p2_taped : Int32) (v_p2_at : Int32) (v_p2_fault : Int32) (v_p2_laid : Int32) (v_p2_open : Int32) (v_p2_s : Nat → Int32) (v_p2_keptS : Nat → Int32) (v_p2_statuses : Nat → Int32) (v_p2_pile : Nat → Int32) (v_p2_tape : Nat → Int32) (v_p2_steps : Nat → Int32) (v_p2_wish : Nat → Int32) (v_p2_mark : Nat → Int32) (v_p2_bitsOf : Nat → Int32) (v_p2_sizeOf : Nat → Int32) (v_p2_number : Nat → Int64) (v_p2_moved : Nat → Int64), I0 v_p1_isKept v_p1_party_size v_p1_party_list v_p1_party_told v_p1_party_kinds v_p1_party_costs v_p1_party_terms v_p1_party_known v_p1_kept_size v_p1_kept_list v_p1_kept_told v_p1_kept_kinds v_p1_kept_costs v_p1_kept_terms v_p1_kept_known v_p1_tape_length v_p1_tape_place v_p1_tape_fault v_p1_tape_teller v_p1_tape_word v_p1_tape_bytes v_p1_telephone_queue v_p1_telephone_callsTo v_p1_telephone_firstCalled v_p1_sheets0_bits v_p1_sheets0_size v_p1_sheets0_numbers v_p1_sheets1_bits v_p1_sheets1_size v_p1_sheets1_numbers v_p1_sheets2_bits v_p1_sheets2_size v_p1_sheets2_numbers v_p1_sheets3_bits v_p1_sheets3_size v_p1_sheets3_numbers v_p1_findings v_p2_isKept v_p2_taped v_p2_at v_p2_fault v_p2_laid v_p2_open v_p2_s v_p2_keptS v_p2_statuses v_p2_pile v_p2_tape v_p2_steps v_p2_wish v_p2_mark v_p2_bitsOf v_p2_sizeOf v_p2_number v_p2_moved → ∃ (r1 : Int32) (k1 : Int32) (r2 : Int32) (k2 : Int32), fX4_tear v_p1_isKept = some (r1, k1) ∧ fX5_tear v_p2_isKept = some (r2, k2) ∧ r1 = r2 ∧ I1 k1 v_p1_party_size v_p1_party_list v_p1_party_told v_p1_party_kinds v_p1_party_costs v_p1_party_terms v_p1_party_known v_p1_kept_size v_p1_kept_list v_p1_kept_told v_p1_kept_kinds v_p1_kept_costs v_p1_kept_terms v_p1_kept_known v_p1_tape_length v_p1_tape_place v_p1_tape_fault v_p1_tape_teller v_p1_tape_word v_p1_tape_bytes v_p1_telephone_queue v_p1_telephone_callsTo v_p1_telephone_firstCalled v_p1_sheets0_bits v_p1_sheets0_size v_p1_sheets0_numbers v_p1_sheets1_bits v_p1_sheets1_size v_p1_sheets1_numbers v_p1_sheets2_bits v_p1_sheets2_size v_p1_sheets2_numbers v_p1_sheets3_bits v_p1_sheets3_size v_p1_sheets3_numbers v_p1_findings k2 v_p2_taped v_p2_at v_p2_fault v_p2_laid v_p2_open v_p2_s v_p2_keptS v_p2_statuses v_p2_pile v_p2_tape v_p2_steps v_p2_wish v_p2_mark v_p2_bitsOf v_p2_sizeOf v_p2_number v_p2_moved
def S_count (I0 I1 : LT) : Prop := ∀ (v_p1_isKept : Int32) (v_p1_party_size : Int32) (v_p1_party_list : Int32) (v_p1_party_told : Int32) (v_p1_party_kinds : Nat → Int32) (v_p1_party_costs : Nat → Int32) (v_p1_party_terms : Nat → Int64) (v_p1_party_known : Nat → Int32) (v_p1_kept_size : Int32) (v_p1_kept_list : Int32) (v_p1_kept_told : Int32) (v_p1_kept_kinds : Nat → Int32) (v_p1_kept_costs : Nat → Int32) (v_p1_kept_terms : Nat → Int64) (v_p1_kept_known : Nat → Int32) (v_p1_tape_length : Int32) (v_p1_tape_place : Int32) (v_p1_tape_fault : Int32) (v_p1_tape_teller : Int32) (v_p1_tape_word : Int32) (v_p1_tape_bytes : Nat → Int32) (v_p1_telephone_queue : Nat → Int32) (v_p1_telephone_callsTo : Nat → Int32) (v_p1_telephone_firstCalled : Nat → Int32) (v_p1_sheets0_bits : Int32) (v_p1_sheets0_size : Int32) (v_p1_sheets0_numbers : Nat → Int64) (v_p1_sheets1_bits : Int32) (v_p1_sheets1_size : Int32) (v_p1_sheets1_numbers : Nat → Int64) (v_p1_sheets2_bits : Int32) (v_p1_sheets2_size : Int32) (v_p1_sheets2_numbers : Nat → Int64) (v_p1_sheets3_bits : Int32) (v_p1_sheets3_size : Int32) (v_p1_sheets3_numbers : Nat → Int64) (v_p1_findings : Nat → Int32) (v_p2_isKept : Int32) (v_p2_taped : Int32) (v_p2_at : Int32) (v_p2_fault : Int32) (v_p2_laid : Int32) (v_p2_open : Int32) (v_p2_s : Nat → Int32) (v_p2_keptS : Nat → Int32) (v_p2_statuses : Nat → Int32) (v_p2_pile : Nat → Int32) (v_p2_tape : Nat → Int32) (v_p2_steps : Nat → Int32) (v_p2_wish : Nat → Int32) (v_p2_mark : Nat → Int32) (v_p2_bitsOf : Nat → Int32) (v_p2_sizeOf : Nat → Int32) (v_p2_number : Nat → Int64) (v_p2_moved : Nat → Int64) (x1 : Int32), I0 v_p1_isKept v_p1_party_size v_p1_party_list v_p1_party_told v_p1_party_kinds v_p1_party_costs v_p1_party_terms v_p1_party_known v_p1_kept_size v_p1_kept_list v_p1_kept_told v_p1_kept_kinds v_p1_kept_costs v_p1_kept_terms v_p1_kept_known v_p1_tape_length v_p1_tape_place v_p1_tape_fault v_p1_tape_teller v_p1_tape_word v_p1_tape_bytes v_p1_telephone_queue v_p1_telephone_callsTo v_p1_telephone_firstCalled v_p1_sheets0_bits v_p1_sheets0_size v_p1_sheets0_numbers v_p1_sheets1_bits v_p1_sheets1_size v_p1_sheets1_numbers v_p1_sheets2_bits v_p1_sheets2_size v_p1_sheets2_numbers v_p1_sheets3_bits v_p1_sheets3_size v_p1_sheets3_numbers v_p1_findings v_p2_isKept v_p2_taped v_p2_at v_p2_fault v_p2_laid v_p2_open v_p2_s v_p2_keptS v_p2_statuses v_p2_pile v_p2_tape v_p2_steps v_p2_wish v_p2_mark v_p2_bitsOf v_p2_sizeOf v_p2_number v_p2_moved → ∃ (r1 : Int32) (k1 : (Nat → Int32)) (r2 : Int32) (k2 : (Nat → Int32)), fX4_count v_p1_party_size v_p1_party_told v_p1_party_costs v_p1_tape_length v_p1_findings x1 = some (r1, k1) ∧ fX5_count v_p2_taped v_p2_s v_p2_statuses x1 = some (r2, k2) ∧ r1 = r2 ∧ I1 v_p1_isKept v_p1_party_size v_p1_party_list v_p1_party_told v_p1_party_kinds v_p1_party_costs v_p1_party_terms v_p1_party_known v_p1_kept_size v_p1_kept_list v_p1_kept_told v_p1_kept_kinds v_p1_kept_costs v_p1_kept_terms v_p1_kept_known v_p1_tape_length v_p1_tape_place v_p1_tape_fault v_p1_tape_teller v_p1_tape_word v_p1_tape_bytes v_p1_telephone_queue v_p1_telephone_callsTo v_p1_telephone_firstCalled v_p1_sheets0_bits v_p1_sheets0_size v_p1_sheets0_numbers v_p1_sheets1_bits v_p1_sheets1_size v_p1_sheets1_numbers v_p1_sheets2_bits v_p1_sheets2_size v_p1_sheets2_numbers v_p1_sheets3_bits v_p1_sheets3_size v_p1_sheets3_numbers k1 v_p2_isKept v_p2_taped v_p2_at v_p2_fault v_p2_laid v_p2_open v_p2_s v_p2_keptS k2 v_p2_pile v_p2_tape v_p2_steps v_p2_wish v_p2_mark v_p2_bitsOf v_p2_sizeOf v_p2_number v_p2_moved
def S_status (I0 I1 : LT) : Prop := ∀ (v_p1_isKept : Int32) (v_p1_party_size : Int32) (v_p1_party_list : Int32) (v_p1_party_told : Int32) (v_p1_party_kinds : Nat → Int32) (v_p1_party_costs : Nat → Int32) (v_p1_party_terms : Nat → Int64) (v_p1_party_known : Nat → Int32) (v_p1_kept_size : Int32) (v_p1_kept_list : Int32) (v_p1_kept_told : Int32) (v_p1_kept_kinds : Nat → Int32) (v_p1_kept_costs : Nat → Int32) (v_p1_kept_terms : Nat → Int64) (v_p1_kept_known : Nat → Int32) (v_p1_tape_length : Int32) (v_p1_tape_place : Int32) (v_p1_tape_fault : Int32) (v_p1_tape_teller : Int32) (v_p1_tape_word : Int32) (v_p1_tape_bytes : Nat → Int32) (v_p1_telephone_queue : Nat → Int32) (v_p1_telephone_callsTo : Nat → Int32) (v_p1_telephone_firstCalled : Nat → Int32) (v_p1_sheets0_bits : Int32) (v_p1_sheets0_size : Int32) (v_p1_sheets0_numbers : Nat → Int64) (v_p1_sheets1_bits : Int32) (v_p1_sheets1_size : Int32) (v_p1_sheets1_numbers : Nat → Int64) (v_p1_sheets2_bits : Int32) (v_p1_sheets2_size : Int32) (v_p1_sheets2_numbers : Nat → Int64) (v_p1_sheets3_bits : Int32) (v_p1_sheets3_size : Int32) (v_p1_sheets3_numbers : Nat → Int64) (v_p1_findings : Nat → Int32) (v_p2_isKept : Int32) (v_p2_taped : Int32) (v_p2_at : Int32) (v_p2_fault : Int32) (v_p2_laid : Int32) (v_p2_open : Int32) (v_p2_s : Nat → Int32) (v_p2_keptS : Nat → Int32) (v_p2_statuses : Nat → Int32) (v_p2_pile : Nat → Int32) (v_p2_tape : Nat → Int32) (v_p2_steps : Nat → Int32) (v_p2_wish : Nat → Int32) (v_p2_mark : Nat → Int32) (v_p2_bitsOf : Nat → Int32) (v_p2_sizeOf : Nat → Int32) (v_p2_number : Nat → Int64) (v_p2_moved : Nat → Int64) (x1 : Int32), I0 v_p1_isKept v_p1_party_size v_p1_party_list v_p1_party_told v_p1_party_kinds v_p1_party_costs v_p1_party_terms v_p1_party_known v_p1_kept_size v_p1_kept_list v_p1_kept_told v_p1_kept_kinds v_p1_kept_costs v_p1_kept_terms v_p1_kept_known v_p1_tape_length v_p1_tape_place v_p1_tape_fault v_p1_tape_teller v_p1_tape_word v_p1_tape_bytes v_p1_telephone_queue v_p1_telephone_callsTo v_p1_telephone_firstCalled v_p1_sheets0_bits v_p1_sheets0_size v_p1_sheets0_numbers v_p1_sheets1_bits v_p1_sheets1_size v_p1_sheets1_numbers v_p1_sheets2_bits v_p1_sheets2_size v_p1_sheets2_numbers v_p1_sheets3_bits v_p1_sheets3_size v_p1_sheets3_numbers v_p1_findings v_p2_isKept v_p2_taped v_p2_at v_p2_fault v_p2_laid v_p2_open v_p2_s v_p2_keptS v_p2_statuses v_p2_pile v_p2_tape v_p2_steps v_p2_wish v_p2_mark v_p2_bitsOf v_p2_sizeOf v_p2_number v_p2_moved → ∃ (r1 : Int32) (k1 : (Nat → Int32)) (r2 : Int32) (k2 : (Nat → Int32)), fX4_status v_p1_findings x1 = some (r1, k1) ∧ fX5_status v_p2_statuses x1 = some (r2, k2) ∧ r1 = r2 ∧ I1 v_p1_isKept v_p1_party_size v_p1_party_list v_p1_party_told v_p1_party_kinds v_p1_party_costs v_p1_party_terms v_p1_party_known v_p1_kept_size v_p1_kept_list v_p1_kept_told v_p1_kept_kinds v_p1_kept_costs v_p1_kept_terms v_p1_kept_known v_p1_tape_length v_p1_tape_place v_p1_tape_fault v_p1_tape_teller v_p1_tape_word v_p1_tape_bytes v_p1_telephone_queue v_p1_telephone_callsTo v_p1_telephone_firstCalled v_p1_sheets0_bits v_p1_sheets0_size v_p1_sheets0_numbers v_p1_sheets1_bits v_p1_sheets1_size v_p1_sheets1_numbers v_p1_sheets2_bits v_p1_sheets2_size v_p1_sheets2_numbers v_p1_sheets3_bits v_p1_sheets3_size v_p1_sheets3_numbers k1 v_p2_isKept v_p2_taped v_p2_at v_p2_fault v_p2_laid v_p2_open v_p2_s v_p2_keptS k2 v_p2_pile v_p2_tape v_p2_steps v_p2_wish v_p2_mark v_p2_bitsOf v_p2_sizeOf v_p2_number v_p2_moved
end
section
/-! pure rows that all claims use -/
theorem x_eq {α κ1 κ2 : Type} {o1 : Option (α × κ1)} {o2 : Option (α × κ2)} (h1 : o1.map Prod.fst = o2.map Prod.fst) (h2 : o1.isSome = true) : ∃ (r1 : α) (k1 : κ1) (r2 : α) (k2 : κ2), o1 = some (r1, k1) ∧ o2 = some (r2, k2) ∧ r1 = r2 ∧ True := by
  cases o1 with
  | none => cases h2
  | some q =>
    cases o2 with
    | none => cases h1
    | some q2 =>
      obtain ⟨a, b⟩ := q
      obtain ⟨a2, b2⟩ := q2
      have e : a = a2 := Option.some.inj h1
      exact ⟨a, b, a2, b2, rfl, rfl, e, trivial⟩
theorem fnd_1 (f : Nat → Int32) : fX4_found f (-1000000001) = some (-1000000001, upd f 0 (f 0 + 1)) := rfl
theorem fnd_2 (f : Nat → Int32) : fX4_found f (-1000000002) = some (-1000000002, upd f 1 (f 1 + 1)) := rfl
theorem fnd_3 (f : Nat → Int32) : fX4_found f (-1000000003) = some (-1000000003, upd f 2 (f 2 + 1)) := rfl
theorem fnd_4 (f : Nat → Int32) : fX4_found f (-1000000004) = some (-1000000004, upd f 3 (f 3 + 1)) := rfl
theorem fnd_6 (f : Nat → Int32) : fX4_found f (-1000000006) = some (-1000000006, upd f 5 (f 5 + 1)) := rfl
theorem fnd_7 (f : Nat → Int32) : fX4_found f (-1000000007) = some (-1000000007, upd f 6 (f 6 + 1)) := rfl
theorem fns_1 (f : Nat → Int32) : fX5_finds f (-1000000001) = some (-1000000001, upd f 0 (f 0 + 1)) := rfl
theorem fns_2 (f : Nat → Int32) : fX5_finds f (-1000000002) = some (-1000000002, upd f 1 (f 1 + 1)) := rfl
theorem fns_3 (f : Nat → Int32) : fX5_finds f (-1000000003) = some (-1000000003, upd f 2 (f 2 + 1)) := rfl
theorem fns_4 (f : Nat → Int32) : fX5_finds f (-1000000004) = some (-1000000004, upd f 3 (f 3 + 1)) := rfl
theorem fns_6 (f : Nat → Int32) : fX5_finds f (-1000000006) = some (-1000000006, upd f 5 (f 5 + 1)) := rfl
theorem fns_7 (f : Nat → Int32) : fX5_finds f (-1000000007) = some (-1000000007, upd f 6 (f 6 + 1)) := rfl
/-- a truth as an int -/
def b2 (p : Prop) [Decidable p] : Int32 := if p then 1 else 0
theorem b2_t {p : Prop} [Decidable p] (h : p) : b2 p = 1 := if_pos h
theorem b2_f {p : Prop} [Decidable p] (h : ¬ p) : b2 p = 0 := if_neg h
theorem ite_b2 {p : Prop} [Decidable p] {α : Type} (a b : α) : (if b2 p = 0 then a else b) = if p then b else a := by
  by_cases h : p
  · rw [b2_t h, if_pos h, if_neg (by decide)]
  · rw [b2_f h, if_neg h, if_pos rfl]
theorem gB_b2 {p : Prop} [Decidable p] {β : Type} (k : Option β) : gB (b2 p) k = k := by
  by_cases h : p
  · rw [b2_t h]; rfl
  · rw [b2_f h]; rfl
theorem i64_toInt (x : Int32) : x.toInt64.toInt = x.toInt := Int32.toInt_toInt64 x
theorem in_b2 (x lo hi : Int64) : fX5_in x lo hi = some (b2 (lo.toInt ≤ x.toInt ∧ x.toInt ≤ hi.toInt), ()) := by
  unfold fX5_in
  by_cases h1 : lo.toInt ≤ x.toInt
  · have g1 : ¬ lg_cmp x lo < 0 := by rw [lg_cmp_lt, Int64.lt_iff_toInt_lt]; omega
    rw [if_neg g1]
    by_cases h2 : x.toInt ≤ hi.toInt
    · have g2 : ¬ 0 < lg_cmp x hi := by rw [lg_cmp_gt, Int64.lt_iff_toInt_lt]; omega
      rw [if_neg g2, b2_t ⟨h1, h2⟩]
    · have g2 : 0 < lg_cmp x hi := by rw [lg_cmp_gt, Int64.lt_iff_toInt_lt]; omega
      rw [if_pos g2, b2_f (fun q => h2 q.2)]
  · have g1 : lg_cmp x lo < 0 := by rw [lg_cmp_lt, Int64.lt_iff_toInt_lt]; omega
    rw [if_pos g1, b2_f (fun q => h1 q.1)]
/-- between two numbers that are written -/
theorem in_32 (x : Int32) {lo hi : Int64} (l h : Int) (el : lo.toInt = l) (eh : hi.toInt = h) : fX5_in x.toInt64 lo hi = some (b2 (l ≤ x.toInt ∧ x.toInt ≤ h), ()) := by
  rw [in_b2, i64_toInt]
  subst el; subst eh
  rfl
theorem rng_b2 {x a b : Int32} {β : Type} (k0 k1 : β) : (if x < a then k0 else (if b ≤ x then k0 else k1)) = if a.toInt ≤ x.toInt ∧ x.toInt < b.toInt then k1 else k0 := by
  by_cases h1 : x < a
  · rw [if_pos h1, if_neg]
    rw [Int32.lt_iff_toInt_lt] at h1; omega
  · rw [if_neg h1]
    by_cases h2 : b ≤ x
    · rw [if_pos h2, if_neg]
      rw [Int32.le_iff_toInt_le] at h2; omega
    · rw [if_neg h2, if_pos]
      rw [Int32.lt_iff_toInt_lt] at h1; rw [Int32.le_iff_toInt_le] at h2; omega
theorem isKind_b2 (x : Int32) : fX4_isKind x = some (b2 (0 ≤ x.toInt ∧ x.toInt ≤ 5), ()) := by
  unfold fX4_isKind
  have e0 : (0 : Int32).toInt = 0 := by decide
  have e6 : (6 : Int32).toInt = 6 := by decide
  rw [rng_b2, e0, e6]
  by_cases h : 0 ≤ x.toInt ∧ x.toInt ≤ 5
  · rw [b2_t h, if_pos (by omega)]
  · rw [b2_f h, if_neg (by omega)]
theorem isSheet_b2 (x : Int32) : fX4_isSheet x = some (b2 (0 ≤ x.toInt ∧ x.toInt ≤ 3), ()) := by
  unfold fX4_isSheet
  have e0 : (0 : Int32).toInt = 0 := by decide
  have e6 : (4 : Int32).toInt = 4 := by decide
  rw [rng_b2, e0, e6]
  by_cases h : 0 ≤ x.toInt ∧ x.toInt ≤ 3
  · rw [b2_t h, if_pos (by omega)]
  · rw [b2_f h, if_neg (by omega)]
theorem isCost_b2 (x : Int32) : fX4_isCost x = some (b2 (0 ≤ x.toInt ∧ x.toInt ≤ 99), ()) := by
  unfold fX4_isCost
  have e0 : (0 : Int32).toInt = 0 := by decide
  have e9 : (99 : Int32).toInt = 99 := by decide
  by_cases h1 : x < 0
  · rw [if_pos h1, b2_f]
    rw [Int32.lt_iff_toInt_lt] at h1; omega
  · rw [if_neg h1]
    rw [Int32.lt_iff_toInt_lt] at h1
    by_cases h2 : 99 < x
    · rw [if_pos h2, b2_f]
      rw [Int32.lt_iff_toInt_lt] at h2; omega
    · rw [if_neg h2, b2_t]
      rw [Int32.lt_iff_toInt_lt] at h2; omega
theorem isOne_b2 (x : Int32) : fX5_isOne x = some (b2 (0 ≤ x.toInt ∧ x.toInt ≤ 3), ()) := by
  unfold fX5_isOne
  rw [in_32 x 0 3 (by decide) (by decide), bR_some, gB_b2]
theorem has_b2 (n x : Int32) : fX0_has n x = some (b2 (0 ≤ x.toInt ∧ x.toInt < n.toInt), ()) := by
  unfold fX0_has
  rw [rng_b2]
  by_cases h : 0 ≤ x.toInt ∧ x.toInt < n.toInt
  · rw [b2_t h, if_pos]; exact h
  · rw [b2_f h, if_neg]; exact h
/-- an int between two numbers -/
theorem i_ex {x : Int32} {n : Nat} (hn : n < 2 ^ 31) (h1 : 0 ≤ x.toInt) (h2 : x.toInt < n) : ∃ k : Nat, k < n ∧ x = nI k := by
  refine ⟨x.toInt.toNat, by omega, Int32.toInt_inj.mp ?_⟩
  rw [nI_toInt (by omega)]
  omega
end
section
/-! what a method gives back; numbers; bits of lists below 256 -/
def Ret {α κ : Type} (o : Option (α × κ)) (r : α) (Q : κ → Prop) : Prop := ∃ k, o = some (r, k) ∧ Q k
def RetV {κ : Type} (o : Option κ) (Q : κ → Prop) : Prop := ∃ k, o = some k ∧ Q k
theorem Ret.mk {α κ : Type} {r : α} {k : κ} {Q : κ → Prop} (h : Q k) : Ret (some (r, k)) r Q := ⟨k, rfl, h⟩
theorem Ret.mk' {α κ : Type} {r r' : α} {k : κ} {Q : κ → Prop} (e : r = r') (h : Q k) : Ret (some (r, k)) r' Q := ⟨k, by rw [e], h⟩
theorem RetV.mk {κ : Type} {k : κ} {Q : κ → Prop} (h : Q k) : RetV (some k) Q := ⟨k, rfl, h⟩
theorem Ret.b1 {α κ α' κ' : Type} {o : Option (α × κ)} {r : α} {Q : κ → Prop} {f : α → κ → Option (α' × κ')} {r' : α'} {Q' : κ' → Prop} (h : Ret o r Q) (hk : ∀ k, Q k → Ret (f r k) r' Q') : Ret (bR o f) r' Q' := by
  obtain ⟨k, e, q⟩ := h
  rw [e, bR_some]
  exact hk k q
theorem Ret.b1V {α κ κ' : Type} {o : Option (α × κ)} {r : α} {Q : κ → Prop} {f : α → κ → Option κ'} {Q' : κ' → Prop} (h : Ret o r Q) (hk : ∀ k, Q k → RetV (f r k) Q') : RetV (bR o f) Q' := by
  obtain ⟨k, e, q⟩ := h
  rw [e, bR_some]
  exact hk k q
theorem bV_some {κ β : Type} (x : κ) (k : κ → Option β) : bV (some x) k = k x := rfl
theorem RetV.b1 {κ α' κ' : Type} {o : Option κ} {Q : κ → Prop} {f : κ → Option (α' × κ')} {r' : α'} {Q' : κ' → Prop} (h : RetV o Q) (hk : ∀ k, Q k → Ret (f k) r' Q') : Ret (bV o f) r' Q' := by
  obtain ⟨k, e, q⟩ := h
  rw [e, bV_some]
  exact hk k q
theorem RetV.bb {κ κ' : Type} {o : Option κ} {Q : κ → Prop} {f : κ → Option κ'} {Q' : κ' → Prop} (h : RetV o Q) (hk : ∀ k, Q k → RetV (f k) Q') : RetV (bV o f) Q' := by
  obtain ⟨k, e, q⟩ := h
  rw [e, bV_some]
  exact hk k q
theorem Ret.weaken {α κ : Type} {o : Option (α × κ)} {r : α} {Q Q' : κ → Prop} (h : Ret o r Q) (hq : ∀ k, Q k → Q' k) : Ret o r Q' := by
  obtain ⟨k, e, q⟩ := h
  exact ⟨k, e, hq k q⟩
theorem RetV.weaken {κ : Type} {o : Option κ} {Q Q' : κ → Prop} (h : RetV o Q) (hq : ∀ k, Q k → Q' k) : RetV o Q' := by
  obtain ⟨k, e, q⟩ := h
  exact ⟨k, e, hq k q⟩
/-! numbers (fa_lit, fa_and, fa_or, ts_bit began as rows of kit/laws) -/
theorem fa_lit (n : Nat) : (OfNat.ofNat n : Int32) = nI n := rfl
theorem fa_and (a b : Nat) : nI a &&& nI b = nI (a &&& b) := by
  apply Int32.toBitVec_inj.1
  show BitVec.ofNat 32 a &&& BitVec.ofNat 32 b = BitVec.ofNat 32 (a &&& b)
  apply BitVec.eq_of_getLsbD_eq
  intro i hi
  simp [hi]
theorem fa_or (a b : Nat) : nI a ||| nI b = nI (a ||| b) := by
  apply Int32.toBitVec_inj.1
  show BitVec.ofNat 32 a ||| BitVec.ofNat 32 b = BitVec.ofNat 32 (a ||| b)
  apply BitVec.eq_of_getLsbD_eq
  intro i hi
  simp [hi]
theorem fa_xor (a b : Nat) : nI a ^^^ nI b = nI (a ^^^ b) := by
  apply Int32.toBitVec_inj.1
  show BitVec.ofNat 32 a ^^^ BitVec.ofNat 32 b = BitVec.ofNat 32 (a ^^^ b)
  apply BitVec.eq_of_getLsbD_eq
  intro i hi
  simp [hi]
theorem ts_bit {w : Int64} {s : UInt64} {j : Nat} (hj : j < 64) (hs : s.toNat = j) : ((w.toUInt64 >>> s).toInt64 &&& 1) = 0 ↔ w.toBitVec.getLsbD j = false := by
  have e : (w.toUInt64 >>> s).toInt64.toBitVec = w.toBitVec >>> j := by
    apply BitVec.eq_of_toNat_eq
    show (w.toUInt64 >>> s).toNat = _
    rw [UInt64.toNat_shiftRight, hs, Nat.mod_eq_of_lt hj, BitVec.toNat_ushiftRight]
    rfl
  rw [← Int64.toBitVec_inj, Int64.toBitVec_and, e]
  show w.toBitVec >>> j &&& 1#64 = 0#64 ↔ _
  constructor
  · intro h
    have t := congrArg (fun x => x.getLsbD 0) h
    simpa using t
  · intro h
    apply BitVec.eq_of_getLsbD_eq
    intro i hi
    cases i with
    | zero => simp [h]
    | succ i => simp
theorem ite_le {α : Type} {a b : Nat} (ha : a < 2 ^ 31) (hb : b < 2 ^ 31) (x y : α) : (if nI a ≤ nI b then x else y) = if a ≤ b then x else y := by
  by_cases h : a ≤ b
  · rw [if_pos h, if_pos ((nI_leI ha hb).mpr h)]
  · rw [if_neg h, if_neg (fun q => h ((nI_leI ha hb).mp q))]
theorem ite_lt {α : Type} {a b : Nat} (ha : a < 2 ^ 31) (hb : b < 2 ^ 31) (x y : α) : (if nI a < nI b then x else y) = if a < b then x else y := by
  by_cases h : a < b
  · rw [if_pos h, if_pos ((nI_ltI ha hb).mpr h)]
  · rw [if_neg h, if_neg (fun q => h ((nI_ltI ha hb).mp q))]
theorem ite_eqN {α : Type} {a b : Nat} (ha : a < 2 ^ 31) (hb : b < 2 ^ 31) (x y : α) : (if nI a = nI b then x else y) = if a = b then x else y := by
  by_cases h : a = b
  · rw [if_pos h, if_pos ((nI_eq ha hb).mpr h)]
  · rw [if_neg h, if_neg (fun q => h ((nI_eq ha hb).mp q))]
theorem nI_neg {a : Nat} (ha : a < 2 ^ 31) : ¬ nI a < 0 := by
  rw [Int32.lt_iff_toInt_lt, nI_toInt ha]
  have e : (0 : Int32).toInt = 0 := by decide
  omega
theorem nI_0le {a : Nat} (ha : a < 2 ^ 31) : (0 : Int32) ≤ nI a := by
  rw [Int32.le_iff_toInt_le, nI_toInt ha]
  have e : (0 : Int32).toInt = 0 := by decide
  omega
theorem nI_m1 {a : Nat} (ha : a < 2 ^ 31) : ¬ nI a = -1 := by
  rw [← Int32.toInt_inj, nI_toInt ha]
  have e : (-1 : Int32).toInt = -1 := by decide
  omega
theorem nI_mulL (a b : Nat) : nI a * nI b = nI (a * b) := (Int32.ofNat_mul a b).symm
theorem nI_sub1 {a b : Nat} (h : b ≤ a) : nI a - nI b = nI (a - b) := by
  have : nI a = nI (a - b) + nI b := by rw [nI_add, Nat.sub_add_cancel h]
  rw [this, Int32.add_sub_cancel]
theorem gIn_c {β : Type} {x : Int32} {i n : Nat} {k : Option β} (e : x = nI i) (h : i < n) (hn : n < 2 ^ 31) : gIn x n k = k := by rw [e, gIn_nI h hn]
theorem lg_cmp_0 (x y : Int64) : lg_cmp x y = 0 ↔ x = y := by
  unfold lg_cmp
  by_cases h : x > y
  · rw [if_pos h]
    constructor
    · intro q; exact absurd q (by decide)
    · intro q; subst q; exact absurd h (by simp)
  · rw [if_neg h]
    by_cases h2 : x = y
    · rw [if_pos h2]; simp [h2]
    · rw [if_neg h2]
      constructor
      · intro q; exact absurd q (by decide)
      · intro q; exact absurd q h2
/-! bits -/
def pop (l : Nat) : Nat := l % 2 + l / 2 % 2 + l / 4 % 2 + l / 8 % 2 + l / 16 % 2 + l / 32 % 2 + l / 64 % 2 + l / 128 % 2
theorem pop_le (l : Nat) : pop l ≤ 8 := by unfold pop; omega
/-- a list without one -/
def clr (l g : Nat) : Nat := l &&& (255 ^^^ 2 ^ g)
theorem bit_i : ∀ g, g < 9 → jshl 1 (nI g) = nI (2 ^ g) := by decide +kernel
theorem two_le {g : Nat} (h : g ≤ 8) : 2 ^ g ≤ 256 := Nat.pow_le_pow_right (by decide) h
theorem two_lt {g : Nat} (h : g < 8) : 2 ^ g < 256 := Nat.pow_lt_pow_right (a := 2) (by decide) h
theorem clr_b : ∀ g, g < 8 → (jshl 1 (nI g) ^^^ (-1)) &&& nI 255 = nI (255 ^^^ 2 ^ g) := by decide +kernel
theorem and255 {l : Nat} (h : l < 256) : l &&& 255 = l := by
  have := Nat.and_two_pow_sub_one_eq_mod l 8
  rw [show (2 : Nat) ^ 8 - 1 = 255 from rfl] at this
  rw [this]
  exact Nat.mod_eq_of_lt h
theorem and255i {l : Nat} (h : l < 256) : nI l &&& 255 = nI l := by
  rw [fa_lit 255, fa_and, and255 h]
theorem clr_i {l g : Nat} (hl : l < 256) (hg : g < 8) : nI l &&& (jshl 1 (nI g) ^^^ (-1)) = nI (clr l g) := by
  have e : nI l = nI l &&& nI 255 := by rw [fa_and, and255 hl]
  rw [e, Int32.and_assoc, Int32.and_comm (nI 255), clr_b g hg, fa_and]
  rfl
theorem clr_lt {l g : Nat} (hl : l < 256) : clr l g < 256 := Nat.lt_of_le_of_lt Nat.and_le_left hl
theorem clr_le {l g : Nat} : clr l g ≤ l := Nat.and_le_left
theorem clr_t {l g : Nat} (hl : l < 256) (hg : g < 8) (i : Nat) : (clr l g).testBit i = (l.testBit i && decide (i ≠ g)) := by
  unfold clr
  rw [Nat.testBit_and, Nat.testBit_xor, Nat.testBit_two_pow]
  by_cases h : i < 8
  · have : Nat.testBit 255 i = true := by
      have := Nat.testBit_two_pow_sub_one 8 i
      rw [show (2 : Nat) ^ 8 - 1 = 255 from rfl] at this
      rw [this]; exact decide_eq_true h
    rw [this]
    by_cases c : g = i
    · subst c; simp
    · have c2 : ¬ i = g := fun q => c q.symm
      simp [c, c2]
  · have : l.testBit i = false := Nat.testBit_lt_two_pow (Nat.lt_of_lt_of_le hl (Nat.pow_le_pow_right (n := 2) (i := 8) (by decide) (by omega)))
    rw [this]; simp
theorem pop_i : ∀ l, l < 256 → fJ6_bitCount_0f7a4 (nI l) = some (nI (pop l), ()) := by decide +kernel
theorem ones_i : ∀ l, l < 256 → fX5_ones (nI l) = some (nI (pop l), ()) := by decide +kernel
theorem oth_c {l g : Nat} (hl : l < 256) (hg : g < 8) : fX4_othersOn (nI g) (nI l) = some (nI (pop (clr l g)), ()) := by
  unfold fX4_othersOn
  rw [clr_i hl hg, pop_i _ (clr_lt hl), bR_some]
theorem oth_m {l g : Nat} (hl : l < 256) (hg : g < 8) : fX5_others (nI g) (nI l) = some (nI (pop (clr l g)), ()) := by
  unfold fX5_others
  rw [clr_i hl hg, ones_i _ (clr_lt hl), bR_some]
theorem shr_i : ∀ l, l < 256 → ∀ g, g < 8 → jshr (nI l) (nI g) &&& 1 = b2 (l.testBit g = true) := by decide +kernel
theorem isOn_i {l g : Nat} (hl : l < 256) (hg : g < 8) : fX4_isOn (nI g) (nI l) = some (b2 (l.testBit g = true), ()) := by
  unfold fX4_isOn
  rw [shr_i l hl g hg]
  by_cases h : l.testBit g = true
  · rw [b2_t h]; rfl
  · rw [b2_f h]; rfl
theorem hasM_i {l g : Nat} (hl : l < 256) (hg : g < 8) : fX5_has (nI l) (nI g) = some (b2 (l.testBit g = true), ()) := by
  unfold fX5_has
  rw [shr_i l hl g hg]
  by_cases h : l.testBit g = true
  · rw [b2_t h]; rfl
  · rw [b2_f h]; rfl
/-- a set out of a truth for each -/
def wdn (C : Nat → Bool) : Nat → Nat
  | 0 => 0
  | g + 1 => wdn C g ||| (if C g then 2 ^ g else 0)
theorem wdn_lt (C : Nat → Bool) : ∀ n, wdn C n < 2 ^ n
  | 0 => Nat.zero_lt_one
  | g + 1 => by
    have ih := wdn_lt C g
    have h1 : 2 ^ g < 2 ^ (g + 1) := Nat.pow_lt_pow_right (by decide) (by omega)
    refine Nat.or_lt_two_pow (by omega) ?_
    by_cases c : C g = true
    · rw [if_pos c]; exact h1
    · rw [if_neg c]; omega
theorem wdn_t (C : Nat → Bool) : ∀ n i, (wdn C n).testBit i = (decide (i < n) && C i)
  | 0, i => by simp [wdn]
  | g + 1, i => by
    have ih := wdn_t C g i
    show (wdn C g ||| (if C g then 2 ^ g else 0)).testBit i = _
    rw [Nat.testBit_or, ih]
    by_cases c : i < g
    · have e : ¬ g = i := by omega
      have e2 : i < g + 1 := by omega
      cases h : C g <;> simp [c, e, e2, Nat.testBit_two_pow]
    · by_cases d : i = g
      · subst d
        cases h : C i <;> simp [Nat.testBit_two_pow, h]
      · have e2 : ¬ i < g + 1 := by omega
        have e3 : ¬ g = i := fun q => d q.symm
        cases h : C g <;> simp [c, e2, e3, Nat.testBit_two_pow]
theorem wdn_congr {C D : Nat → Bool} : ∀ {n : Nat}, (∀ g, g < n → C g = D g) → wdn C n = wdn D n
  | 0, _ => rfl
  | g + 1, h => by
    show wdn C g ||| _ = wdn D g ||| _
    rw [wdn_congr (fun i hi => h i (by omega)), h g (by omega)]
/-- WOULD one of a kind come, whose term holds or not, with so many others on the list -/
def cm (k : Nat) (h : Bool) (o : Nat) : Bool :=
  match k with
  | 0 => h
  | 1 => h || decide (4 ≤ o)
  | 2 => h && decide (o ≤ 4)
  | 4 => h || decide (4 ≤ o) || decide (o = 0)
  | 5 => !(h && decide (o ≤ 4))
  | _ => false
/-- the list one round later -/
def Wd (n : Nat) (kd : Nat → Nat) (Hh : Nat → Nat → Bool) (l : Nat) : Nat := wdn (fun g => cm (kd g) (Hh g l) (pop (clr l g))) n
theorem Wd_lt (n : Nat) (kd : Nat → Nat) (Hh : Nat → Nat → Bool) (l : Nat) : Wd n kd Hh l < 2 ^ n := wdn_lt _ n
end
section
/-! the class's party: who would come, by its rows -/
def tb (te : Nat → Int64) (g l : Nat) : Bool := (te (4 * g + l / 64)).toBitVec.getLsbD (l % 64)
theorem div_i : ∀ l, l < 256 → (nI l &&& 255) / 64 = nI (l / 64) := by decide +kernel
theorem rem_i : ∀ l, l < 256 → jrem (nI l) 64 = nI (l % 64) := by decide +kernel
theorem sh_i : ∀ k, k < 64 → ((nI k).toInt64.toUInt64 &&& Int64.toUInt64 63).toNat = k := by decide +kernel
theorem termHolds_eq (te : Nat → Int64) {g l : Nat} (hg : g < 8) (hl : l < 256) : fX0_termHolds te (nI g) (nI l) = some (b2 (tb te g l = true), ()) := by
  have e : nI g * 4 + nI (l / 64) = nI (4 * g + l / 64) := by rw [fa_lit 4, nI_mulL, nI_add, Nat.mul_comm]
  unfold fX0_termHolds
  rw [nm_of, div_i l hl, e, gIn_nI (by omega) (by decide), nI_clamp (by omega), rem_i l hl]
  have k := ts_bit (w := te (4 * g + l / 64)) (Nat.mod_lt l (by decide : 64 > 0)) (sh_i (l % 64) (Nat.mod_lt l (by decide)))
  by_cases h : tb te g l = true
  · rw [b2_t h, if_neg]
    rw [lg_cmp_0]
    intro q
    have := k.mp q
    unfold tb at h
    rw [h] at this
    cases this
  · rw [b2_f h, if_pos]
    rw [lg_cmp_0]
    apply k.mpr
    unfold tb at h
    exact Bool.eq_false_iff.mpr h
theorem wca_key : ∀ k, k < 6 → ∀ o, o < 9 → ∀ h : Fin 2, (if (nI k).toInt < 0 ∨ 5 < (nI k).toInt then (some (0, ())) else (if nI k = 0 then (gB (b2 (h = 1)) (some (b2 (h = 1), ()))) else (if nI k = 1 then ((if b2 (h = 1) = 0 then ((if nI o < 4 then (some (0, ())) else (some (1, ())))) else (some (1, ())))) else (if nI k = 2 then ((if b2 (h = 1) = 0 then (some (0, ())) else ((if (4 : Int32) < nI o then (some (0, ())) else (some (1, ())))))) else (if nI k = 3 then (some (0, ())) else (if nI k = 4 then ((if b2 (h = 1) = 0 then ((if (4 : Int32) ≤ nI o then (some (1, ())) else ((if nI o = 0 then (some (1, ())) else (some (0, ())))))) else (some (1, ())))) else (if nI k = 5 then ((if b2 (h = 1) = 0 then (some (1, ())) else ((if nI o ≤ 4 then (some (0, ())) else (some (1, ())))))) else none))))))) = some (b2 (cm k (decide (h = 1)) o = true), ()) := by decide +kernel
theorem b2_congr {p q : Prop} [Decidable p] [Decidable q] (h : p ↔ q) : b2 p = b2 q := by
  by_cases c : p
  · rw [b2_t c, b2_t (h.mp c)]
  · rw [b2_f c, b2_f (fun r => c (h.mpr r))]
theorem wca_eq (te : Nat → Int64) {k g l : Nat} (hk : k < 6) (hg : g < 8) (hl : l < 256) : fX0_wouldComeAs te (nI k) (nI g) (nI l) = some (b2 (cm k (tb te g l) (pop (clr l g)) = true), ()) := by
  unfold fX0_wouldComeAs
  rw [termHolds_eq te hg hl, oth_c hl hg, bR_some, bR_some]
  have ho : pop (clr l g) < 9 := by have := pop_le (clr l g); omega
  generalize pop (clr l g) = o at ho ⊢
  generalize tb te g l = h
  cases h with
  | false =>
    have := wca_key k hk o ho 0
    rw [b2_congr (p := (0 : Fin 2) = 1) (q := false = true) (by decide)] at this
    exact this
  | true =>
    have := wca_key k hk o ho 1
    rw [b2_congr (p := (1 : Fin 2) = 1) (q := true = true) (by decide)] at this
    exact this
def PC (n : Nat) (kd : Nat → Nat) (Hh : Nat → Nat → Bool) (sz : Int32) (ki : Nat → Int32) (te : Nat → Int64) : Prop :=
  n ≤ 8 ∧ sz = nI n ∧ (∀ g, g < n → kd g < 6 ∧ ki g = nI (kd g)) ∧ ∀ g, g < n → ∀ l, l < 256 → Hh g l = tb te g l
/-- what is known of who would come is so -/
def KV (n : Nat) (kd : Nat → Nat) (Hh : Nat → Nat → Bool) (kn : Nat → Int32) : Prop := ∀ l, l < 256 → kn l = -1 ∨ kn l = nI (Wd n kd Hh l)
theorem KV_new {n : Nat} {kd : Nat → Nat} {Hh : Nat → Nat → Bool} (kn : Nat → Int32) : KV n kd Hh (fillF 256 (-1) kn) := fun l hl => Or.inl (if_pos hl)
theorem Wd_256 {n : Nat} (hn : n ≤ 8) (kd : Nat → Nat) (Hh : Nat → Nat → Bool) (l : Nat) : Wd n kd Hh l < 256 := Nat.lt_of_lt_of_le (Wd_lt n kd Hh l) (two_le hn)
section CLS
variable {n : Nat} {kd : Nat → Nat} {Hh : Nat → Nat → Bool} {sz : Int32} {ki : Nat → Int32} {te : Nat → Int64}
theorem comers_loop (P : PC n kd Hh sz ki te) {kn : Nat → Int32} (K : KV n kd Hh kn) {l : Nat} (hl : l < 256) : ∀ (f i : Nat), i ≤ n → n - i < f → Ret (ll4 (fX0_comers_21 sz ki te) f kn (nI l) (nI (wdn (fun g => cm (kd g) (Hh g l) (pop (clr l g))) i)) (nI i)) (nI (Wd n kd Hh l)) (KV n kd Hh)
  | 0, i, _, h => absurd h (by omega)
  | f + 1, i, hi, hf => by
    have ih := comers_loop P K hl f (i + 1)
    obtain ⟨hn, rfl, hk, hH⟩ := P
    show Ret (fX0_comers_21 (nI n) ki te (ll4 (fX0_comers_21 (nI n) ki te) f) kn (nI l) (nI (wdn (fun g => cm (kd g) (Hh g l) (pop (clr l g))) i)) (nI i)) _ _
    generalize ll4 (fX0_comers_21 (nI n) ki te) f = ag at ih ⊢
    unfold fX0_comers_21
    rw [ite_le (by omega) (by omega)]
    by_cases c : n ≤ i
    · have e : i = n := by omega
      subst e
      rw [if_pos c]
      unfold fX0_comers_71
      rw [gIn_nI hl (by decide), gIn_nI hl (by decide), nI_clamp (by omega), pk_us]
      refine Ret.mk' rfl (fun q hq => ?_)
      by_cases d : q = l
      · subst d; rw [pk_us]; exact Or.inr rfl
      · rw [pk_un d]; exact K q hq
    · have hi2 : i < n := by omega
      rw [if_neg c, gIn_nI (by omega) (by decide), nI_clamp (by omega), (hk i hi2).2, wca_eq te (hk i hi2).1 (by omega) hl, bR_some, ite_b2, ← hH i hi2 l hl]
      have ih := ih (by omega) (by omega)
      unfold fX0_comers_56
      by_cases d : cm (kd i) (Hh i l) (pop (clr l i)) = true
      · rw [if_pos d, nm_of, nm_of, bit_i i (by omega), fa_or, nI_1]
        have e : wdn (fun g => cm (kd g) (Hh g l) (pop (clr l g))) (i + 1) = wdn (fun g => cm (kd g) (Hh g l) (pop (clr l g))) i ||| 2 ^ i := by
          show _ ||| (if _ then _ else _) = _
          rw [if_pos d]
        rw [e] at ih
        exact ih
      · rw [if_neg d, nm_of, nm_of, fa_lit 0, fa_or, nI_1]
        have e : wdn (fun g => cm (kd g) (Hh g l) (pop (clr l g))) (i + 1) = wdn (fun g => cm (kd g) (Hh g l) (pop (clr l g))) i ||| 0 := by
          show _ ||| (if _ then _ else _) = _
          rw [if_neg d]
        rw [e] at ih
        exact ih
theorem comers_r (P : PC n kd Hh sz ki te) {kn : Nat → Int32} (K : KV n kd Hh kn) {l : Nat} (hl : l < 256) : Ret (fX0_comers sz ki te kn (nI l)) (nI (Wd n kd Hh l)) (KV n kd Hh) := by
  have h := comers_loop P K hl 1024 0 (by omega) (by have := P.1; omega)
  unfold fX0_comers
  rw [nm_of, and255i hl, gIn_nI hl (by decide), nI_clamp (by omega)]
  by_cases c : kn l = -1
  · rw [if_pos c]
    exact h
  · rw [if_neg c]
    unfold fX0_comers_71
    rw [gIn_nI hl (by decide), nI_clamp (by omega)]
    exact Ret.mk' ((K l hl).resolve_left c) K
theorem isSettled_r (P : PC n kd Hh sz ki te) {kn : Nat → Int32} (K : KV n kd Hh kn) {l : Nat} (hl : l < 256) : Ret (fX0_isSettled sz ki te kn (nI l)) (b2 (Wd n kd Hh l = l)) (KV n kd Hh) := by
  unfold fX0_isSettled
  refine Ret.b1 (comers_r P K hl) (fun k hk => ?_)
  have hw := Wd_256 P.1 kd Hh l
  rw [ite_eqN (by omega) (by omega)]
  by_cases c : Wd n kd Hh l = l
  · rw [if_pos c, b2_t c]; exact Ret.mk hk
  · rw [if_neg c, b2_f c]; exact Ret.mk hk
/-- a list behind a call of one -/
def cal (n : Nat) (kd : Nat → Nat) (Hh : Nat → Nat → Bool) (l g : Nat) : Nat := clr l g ||| (Wd n kd Hh l &&& 2 ^ g)
theorem or_256 {a b : Nat} (ha : a < 256) (hb : b < 256) : a ||| b < 256 := Nat.or_lt_two_pow (n := 8) ha hb
theorem and_256 {a : Nat} (b : Nat) (ha : a < 256) : a &&& b < 256 := Nat.lt_of_le_of_lt Nat.and_le_left ha
theorem cal_256 (hn : n ≤ 8) {l g : Nat} (hl : l < 256) : cal n kd Hh l g < 256 := or_256 (clr_lt hl) (and_256 _ (Wd_256 hn kd Hh l))
theorem cal_lt {l g : Nat} (hl : l < 2 ^ n) : cal n kd Hh l g < 2 ^ n := Nat.or_lt_two_pow (Nat.lt_of_le_of_lt clr_le hl) (Nat.lt_of_le_of_lt Nat.and_le_left (Wd_lt n kd Hh l))
theorem called_r (P : PC n kd Hh sz ki te) {kn : Nat → Int32} (K : KV n kd Hh kn) {l g : Nat} (hl : l < 256) (hg : g < 8) : Ret (fX0_called sz ki te kn (nI g) (nI l)) (nI (cal n kd Hh l g)) (KV n kd Hh) := by
  unfold fX0_called
  refine Ret.b1 (comers_r P K hl) (fun k hk => ?_)
  rw [clr_i hl hg, bit_i g (by omega), fa_and, fa_or]
  exact Ret.mk hk
theorem oneIf_b2 (p : Prop) [Decidable p] : fX4_oneIf (b2 p) = some (b2 p, ()) := by
  unfold fX4_oneIf
  by_cases c : p
  · rw [b2_t c]; rfl
  · rw [b2_f c]; rfl
theorem oneIf_0 : fX4_oneIf 0 = some (0, ()) := rfl
theorem oneIf_1 : fX4_oneIf 1 = some (1, ()) := rfl
theorem ringUp_r (P : PC n kd Hh sz ki te) {kn : Nat → Int32} (K : KV n kd Hh kn) {l g : Nat} (hl : l < 256) (hg : g < 8) : Ret (fX0_ringUp sz (nI l) ki te kn (nI g)) (b2 (¬ cal n kd Hh l g = l)) (fun k => k.1 = nI (cal n kd Hh l g) ∧ KV n kd Hh k.2) := by
  unfold fX0_ringUp
  refine Ret.b1 (called_r P K hl hg) (fun k hk => ?_)
  have hw := cal_256 (kd := kd) (Hh := Hh) (g := g) P.1 hl
  unfold fX0_ringUp_28
  rw [ite_eqN (by omega) (by omega)]
  by_cases c : cal n kd Hh l g = l
  · rw [if_pos c, b2_f (fun q => q c), oneIf_0, bR_some]
    exact Ret.mk ⟨rfl, hk⟩
  · rw [if_neg c, b2_t c, oneIf_1, bR_some]
    exact Ret.mk ⟨rfl, hk⟩
/-- a step done again and again -/
def it (f : Nat → Nat) : Nat → Nat → Nat
  | 0, l => l
  | k + 1, l => it f k (f l)
theorem it_s (f : Nat → Nat) : ∀ k l, it f (k + 1) l = f (it f k l)
  | 0, _ => rfl
  | k + 1, l => it_s f k (f l)
theorem it_add (f : Nat → Nat) : ∀ a b l, it f (a + b) l = it f a (it f b l)
  | a, 0, _ => rfl
  | a, b + 1, l => it_add f a b (f l)
theorem it_fix {f : Nat → Nat} {l : Nat} (h : f l = l) : ∀ k, it f k l = l
  | 0 => rfl
  | k + 1 => by show it f k (f l) = l; rw [h]; exact it_fix h k
theorem it_lt {f : Nat → Nat} {M : Nat} (hf : ∀ l, f l < M) {l : Nat} (hl : l < M) : ∀ k, it f k l < M
  | 0 => hl
  | k + 1 => by rw [it_s]; exact hf _
theorem it_256 (hn : n ≤ 8) {l : Nat} (hl : l < 256) (k : Nat) : it (Wd n kd Hh) k l < 256 := it_lt (fun l => Wd_256 hn kd Hh l) hl k
theorem behind_loop (P : PC n kd Hh sz ki te) {m : Nat} (hm : m ≤ 256) : ∀ (f i at_ : Nat) (kn : Nat → Int32), i ≤ m → m - i < f → at_ < 256 → KV n kd Hh kn → Ret (ll4 (fX0_behind_5 sz ki te) f kn (nI m) (nI at_) (nI i)) (nI (it (Wd n kd Hh) (m - i) at_)) (KV n kd Hh)
  | 0, i, a, kn, _, h, _, _ => absurd h (by omega)
  | f + 1, i, a, kn, hi, hf, ha, K => by
    have ih := behind_loop P hm f (i + 1)
    show Ret (fX0_behind_5 sz ki te (ll4 (fX0_behind_5 sz ki te) f) kn (nI m) (nI a) (nI i)) _ _
    generalize ll4 (fX0_behind_5 sz ki te) f = ag at ih ⊢
    unfold fX0_behind_5
    rw [ite_le (by omega) (by omega)]
    by_cases c : m ≤ i
    · rw [if_pos c, show m - i = 0 by omega]
      exact Ret.mk K
    · rw [if_neg c]
      refine Ret.b1 (isSettled_r P K ha) (fun k hk => ?_)
      rw [ite_b2]
      by_cases d : Wd n kd Hh a = a
      · rw [if_pos d, it_fix d]
        exact Ret.mk hk
      · rw [if_neg d]
        refine Ret.b1 (comers_r P hk ha) (fun k2 hk2 => ?_)
        rw [nm_of, nI_1]
        have := ih (Wd n kd Hh a) k2 (by omega) (by omega) (Wd_256 P.1 kd Hh a) hk2
        rw [show m - i = (m - (i + 1)) + 1 by omega]
        exact this
theorem behind_r (P : PC n kd Hh sz ki te) {kn : Nat → Int32} (K : KV n kd Hh kn) {l m : Nat} (hl : l < 256) (hm : m ≤ 256) : Ret (fX0_behind sz ki te kn (nI l) (nI m)) (nI (it (Wd n kd Hh) m l)) (KV n kd Hh) := behind_loop P hm 1024 0 l kn (by omega) (by omega) hl K
/-- costs of those of a set together -/
def csum (co : Nat → Nat) (l : Nat) : Nat → Nat
  | 0 => 0
  | g + 1 => csum co l g + (if l.testBit g then co g else 0)
theorem csum_le {co : Nat → Nat} {l : Nat} : ∀ {n : Nat}, (∀ g, g < n → co g < 100) → csum co l n ≤ 99 * n
  | 0, _ => Nat.le_refl 0
  | g + 1, h => by
    have ih := csum_le (co := co) (l := l) (n := g) (fun i hi => h i (by omega))
    have := h g (by omega)
    show csum co l g + (if l.testBit g then co g else 0) ≤ _
    split <;> omega
theorem csum_congr {co : Nat → Nat} {l l' : Nat} : ∀ {n : Nat}, (∀ g, g < n → l.testBit g = l'.testBit g) → csum co l n = csum co l' n
  | 0, _ => rfl
  | g + 1, h => by
    show csum co l g + _ = csum co l' g + _
    rw [csum_congr (fun i hi => h i (by omega)), h g (by omega)]
theorem costsOf_loop {co : Nat → Nat} {cs : Nat → Int32} (hn : n ≤ 8) (hc : ∀ g, g < n → co g < 100 ∧ cs g = nI (co g)) {l : Nat} (hl : l < 256) : ∀ (f i : Nat), i ≤ n → n - i < f → ll3 (fX0_costsOf_4 (nI n) cs) f (nI l) (nI (csum co l i)) (nI i) = some (nI (csum co l n), ())
  | 0, i, _, h => absurd h (by omega)
  | f + 1, i, hi, hf => by
    have ih := costsOf_loop hn hc hl f (i + 1)
    show fX0_costsOf_4 (nI n) cs (ll3 (fX0_costsOf_4 (nI n) cs) f) (nI l) (nI (csum co l i)) (nI i) = _
    generalize ll3 (fX0_costsOf_4 (nI n) cs) f = ag at ih ⊢
    unfold fX0_costsOf_4 fX0_costsOf_31
    rw [ite_le (by omega) (by omega)]
    by_cases c : n ≤ i
    · have e : i = n := by omega
      rw [if_pos c, e]
    · rw [if_neg c, isOn_i hl (by omega), bR_some, ite_b2, nI_clamp (by omega), (hc i (by omega)).2]
      have ih := ih (by omega) (by omega)
      by_cases d : l.testBit i = true
      · rw [if_pos d, gIn_nI (by omega) (by decide), nm_of, nm_of, nI_add, nI_1]
        have e : csum co l (i + 1) = csum co l i + co i := by show _ + (if _ then _ else _) = _; rw [if_pos d]
        rw [e] at ih
        exact ih
      · rw [if_neg d, nm_of, nm_of, fa_lit 0, nI_add, nI_1]
        have e : csum co l (i + 1) = csum co l i + 0 := by show _ + (if _ then _ else _) = _; rw [if_neg d]
        rw [e] at ih
        exact ih
theorem costsOf_eq {co : Nat → Nat} {cs : Nat → Int32} (hn : n ≤ 8) (hc : ∀ g, g < n → co g < 100 ∧ cs g = nI (co g)) {l : Nat} (hl : l < 256) : fX0_costsOf (nI n) cs (nI l) = some (nI (csum co l n), ()) := costsOf_loop hn hc hl 1024 0 (by omega) (by omega)
end CLS
end
section
/-! the reference: terms as steps on a pile, who would come -/
def ub (p : Nat → Bool) (i : Nat) (v : Bool) : Nat → Bool := fun j => if j = i then v else p j
theorem ub_s {p : Nat → Bool} {i : Nat} {v : Bool} : ub p i v i = v := if_pos rfl
theorem ub_n {p : Nat → Bool} {i j : Nat} {v : Bool} (h : j ≠ i) : ub p i v j = p j := if_neg h
/-- one step, with so many others on the list -/
def sv (o l c h : Nat) (p : Nat → Bool) : Option (Nat × (Nat → Bool)) :=
  if c < 8 then some (h + 1, ub p h (l.testBit c))
  else if c < 110 then some (h + 1, ub p h (decide (o < c % 10)))
  else if c < 120 then some (h + 1, ub p h (decide (o = c % 10)))
  else if c < 130 then some (h + 1, ub p h (decide (c % 10 < o)))
  else if c < 140 then some (h + 1, ub p h (decide (c = 130)))
  else if c = 140 then (if h = 0 then none else some (h, ub p (h - 1) (!p (h - 1))))
  else (if h < 2 then none else some (h - 1, ub p (h - 2) (if c = 141 then p (h - 2) && p (h - 1) else p (h - 2) || p (h - 1))))
def rn (o l : Nat) (cs : Nat → Nat) : Nat → Nat → Nat → (Nat → Bool) → Option (Nat × (Nat → Bool))
  | _, 0, h, p => some (h, p)
  | i, m + 1, h, p => match sv o l (cs i) h p with
    | none => none
    | some q => rn o l cs (i + 1) m q.1 q.2
theorem rn_add (o l : Nat) (cs : Nat → Nat) : ∀ (a b i h : Nat) (p : Nat → Bool) (h1 : Nat) (p1 : Nat → Bool), rn o l cs i a h p = some (h1, p1) → rn o l cs i (a + b) h p = rn o l cs (i + a) b h1 p1
  | 0, b, i, h, p, h1, p1, e => by
    have e : some (h, p) = some (h1, p1) := e
    cases e
    rw [Nat.zero_add]; rfl
  | a + 1, b, i, h, p, h1, p1, e => by
    rw [show a + 1 + b = (a + b) + 1 by omega]
    show (match sv o l (cs i) h p with | none => none | some q => rn o l cs (i + 1) (a + b) q.1 q.2) = _
    have e : (match sv o l (cs i) h p with | none => none | some q => rn o l cs (i + 1) a q.1 q.2) = some (h1, p1) := e
    cases hs : sv o l (cs i) h p with
    | none => rw [hs] at e; cases e
    | some q =>
      rw [hs] at e
      have := rn_add o l cs a b (i + 1) q.1 q.2 h1 p1 e
      rw [show i + (a + 1) = i + 1 + a by omega]
      exact this
theorem rn_one {o l i h : Nat} {cs : Nat → Nat} {p : Nat → Bool} : rn o l cs i 1 h p = sv o l (cs i) h p := by
  show (match sv o l (cs i) h p with | none => none | some q => some (q.1, q.2)) = _
  cases sv o l (cs i) h p <;> rfl
/-- steps that lay just one truth on the pile -/
def Seg (o l : Nat) (cs : Nat → Nat) (i m : Nat) (v : Bool) : Prop := ∀ (h : Nat) (p : Nat → Bool), ∃ p', rn o l cs i m h p = some (h + 1, p') ∧ p' h = v ∧ ∀ j, j < h → p' j = p j
theorem Seg.push {o l i : Nat} {cs : Nat → Nat} {v : Bool} (hs : ∀ h p, sv o l (cs i) h p = some (h + 1, ub p h v)) : Seg o l cs i 1 v := fun h p => ⟨ub p h v, by rw [rn_one, hs], ub_s, fun j hj => ub_n (by omega)⟩
theorem Seg.not {o l i m : Nat} {cs : Nat → Nat} {v : Bool} (h1 : Seg o l cs i m v) (hc : cs (i + m) = 140) : Seg o l cs i (m + 1) (!v) := by
  intro h p
  obtain ⟨p', e, hv, hk⟩ := h1 h p
  refine ⟨ub p' h (!v), ?_, ub_s, fun j hj => by rw [ub_n (by omega)]; exact hk j hj⟩
  rw [rn_add o l cs m 1 i h p _ _ e, rn_one, hc]
  show some (h + 1, ub p' (h + 1 - 1) (!p' (h + 1 - 1))) = _
  rw [Nat.add_sub_cancel, hv]
theorem Seg.bin {o l i m m' : Nat} {cs : Nat → Nat} {a b : Bool} (h1 : Seg o l cs i m a) (h2 : Seg o l cs (i + m) m' b) {c : Nat} (hc : cs (i + m + m') = c) (h3 : 140 < c) : Seg o l cs i (m + m' + 1) (if c = 141 then a && b else a || b) := by
  intro h p
  obtain ⟨p1, e1, v1, k1⟩ := h1 h p
  obtain ⟨p2, e2, v2, k2⟩ := h2 (h + 1) p1
  refine ⟨ub p2 h (if c = 141 then a && b else a || b), ?_, ub_s, fun j hj => by rw [ub_n (by omega), k2 j (by omega)]; exact k1 j hj⟩
  rw [show m + m' + 1 = m + (m' + 1) by omega, rn_add o l cs m (m' + 1) i h p _ _ e1, rn_add o l cs m' 1 (i + m) _ _ _ _ e2, rn_one, hc]
  unfold sv
  rw [if_neg (by omega), if_neg (by omega), if_neg (by omega), if_neg (by omega), if_neg (by omega), if_neg (by omega), if_neg (by omega)]
  have e3 : p2 h = a := by rw [k2 h (by omega), v1]
  show some (h + 1, ub p2 h (if c = 141 then p2 h && p2 (h + 1) else p2 h || p2 (h + 1))) = _
  rw [e3, v2]
theorem Seg.congr {o l i m : Nat} {cs ds : Nat → Nat} {v : Bool} (h : Seg o l cs i m v) (e : ∀ k, i ≤ k → k < i + m → ds k = cs k) : Seg o l ds i m v := by
  have key : ∀ (m i : Nat), (∀ k, i ≤ k → k < i + m → ds k = cs k) → ∀ h p, rn o l ds i m h p = rn o l cs i m h p := by
    intro m
    induction m with
    | zero => intro i _ h p; rfl
    | succ m ih =>
      intro i e h p
      show (match sv o l (ds i) h p with | none => none | some q => rn o l ds (i + 1) m q.1 q.2) = (match sv o l (cs i) h p with | none => none | some q => rn o l cs (i + 1) m q.1 q.2)
      rw [e i (by omega) (by omega)]
      cases sv o l (cs i) h p with
      | none => rfl
      | some q => exact ih (i + 1) (fun k h1 h2 => e k (by omega) (by omega)) q.1 q.2
  intro h0 p
  rw [key m i e h0 p]
  exact h h0 p
theorem diff_i : ∀ o, o < 9 → ∀ d, d < 10 → ((nI o - nI d ≤ 0) ↔ o ≤ d) ∧ ((nI o - nI d = 0) ↔ o = d) ∧ ((0 : Int32) ≤ nI o - nI d ↔ d ≤ o) := by decide +kernel
theorem rem10_i : ∀ c, c < 143 → jrem (nI c) 10 = nI (c % 10) := by decide +kernel
theorem nar_b2 (p : Prop) [Decidable p] : vp_nar .boolean (b2 p) = b2 p := by
  by_cases h : p
  · rw [b2_t h]; rfl
  · rw [b2_f h]; rfl
theorem nar_0 : vp_nar .boolean 0 = b2 (false = true) := rfl
theorem nar_1 : vp_nar .boolean 1 = b2 (true = true) := rfl
/-- the pile's lowest h places -/
def Pl (h : Nat) (p : Nat → Bool) (pile : Nat → Int32) : Prop := ∀ j, j < h → pile j = b2 (p j = true)
theorem Pl.put {h i : Nat} {p : Nat → Bool} {pile : Nat → Int32} (hp : Pl i p pile) (v : Bool) {x : Int32} (hx : x = b2 (v = true)) (hh : h ≤ i + 1) : Pl h (ub p i v) (upd pile i x) := by
  intro j hj
  by_cases c : j = i
  · subst c; rw [pk_us, ub_s, hx]
  · rw [pk_un c, ub_n c]; exact hp j (by omega)
theorem Pl.sub {h i : Nat} {p : Nat → Bool} {pile : Nat → Int32} (hp : Pl i p pile) (hh : h ≤ i) : Pl h p pile := fun j hj => hp j (by omega)
theorem b2_bool (v : Bool) : b2 (v = true) = 0 ↔ v = false := by cases v <;> decide
theorem holds_loop {s : Nat → Int32} {g l m : Nat} {cs : Nat → Nat} (hg : g < 8) (hl : l < 256) (hm : m ≤ 60) (hs : ∀ k, k < m → cs k < 143 ∧ s (26 + 64 * g + k) = nI (cs k)) : ∀ (f i h : Nat) (p : Nat → Bool) (pile : Nat → Int32) (h' : Nat) (p' : Nat → Bool), i ≤ m → m - i < f → h ≤ i → Pl h p pile → rn (pop (clr l g)) l cs i (m - i) h p = some (h', p') → (0 < m → 0 < h') → Ret (ll6 (fX5_holds_13 s) f pile (nI g) (nI l) (nI m) (nI h) (nI i)) (b2 (m = 0 ∨ p' 0 = true)) (fun _ => True)
  | 0, i, h, p, pile, h', p', _, hf, _, _, _, _ => absurd hf (by omega)
  | f + 1, i, h, p, pile, h', p', hi, hf, hh, hp, hr, hz => by
    have ih := holds_loop hg hl hm hs f (i + 1)
    show Ret (fX5_holds_13 s (ll6 (fX5_holds_13 s) f) pile (nI g) (nI l) (nI m) (nI h) (nI i)) _ _
    generalize ll6 (fX5_holds_13 s) f = ag at ih ⊢
    unfold fX5_holds_13
    rw [ite_le (by omega) (by omega)]
    by_cases c : m ≤ i
    · rw [if_pos c]
      rw [show m - i = 0 by omega] at hr
      have hr : some (h, p) = some (h', p') := hr
      cases hr
      rw [fa_lit 0, ite_eqN (by omega) (by omega)]
      by_cases d : m = 0
      · rw [if_pos d, b2_t (Or.inl d)]
        exact Ret.mk trivial
      · rw [if_neg d, hp 0 (hz (by omega))]
        cases e : p 0 with
        | false =>
          rw [b2_f (show ¬ (m = 0 ∨ false = true) from fun q => q.elim d (by simp))]
          exact Ret.mk trivial
        | true =>
          rw [b2_t (show m = 0 ∨ true = true from Or.inr rfl)]
          exact Ret.mk trivial
    · rw [if_neg c]
      have hi2 : i < m := by omega
      obtain ⟨hc, hsi⟩ := hs i hi2
      have hr : rn (pop (clr l g)) l cs i (m - (i + 1) + 1) h p = some (h', p') := by rw [show m - (i + 1) + 1 = m - i by omega]; exact hr
      have hr : (match sv (pop (clr l g)) l (cs i) h p with | none => none | some q => rn (pop (clr l g)) l cs (i + 1) (m - (i + 1)) q.1 q.2) = some (h', p') := hr
      have e : (26 + 64 * nI g) + nI i = nI (26 + 64 * g + i) := by rw [fa_lit 26, fa_lit 64, nI_mulL, nI_add, nI_add]
      rw [e, gIn_nI (by omega) (by decide), nm_of, nI_clamp (by omega), hsi]
      generalize hcc : cs i = cc at hc hr ⊢
      rw [fa_lit 8, ite_le (by decide) (by omega)]
      unfold sv at hr
      by_cases c1 : 8 ≤ cc
      · rw [if_pos c1, fa_lit 130, ite_le (by decide) (by omega)]
        rw [if_neg (show ¬ cc < 8 by omega)] at hr
        by_cases c2 : 130 ≤ cc
        · rw [if_pos c2, fa_lit 140, ite_le (by decide) (by omega)]
          rw [if_neg (show ¬ cc < 110 by omega), if_neg (show ¬ cc < 120 by omega), if_neg (show ¬ cc < 130 by omega)] at hr
          by_cases c3 : 140 ≤ cc
          · rw [if_pos c3, ite_eqN (by omega) (by decide)]
            rw [if_neg (show ¬ cc < 140 by omega)] at hr
            by_cases c4 : cc = 140
            · rw [if_pos c4]
              rw [if_pos c4] at hr
              by_cases c5 : h = 0
              · rw [if_pos c5] at hr; cases hr
              · rw [if_neg c5] at hr
                rw [fa_lit 1, nI_sub1 (by omega), gIn_nI (by omega) (by decide), nI_clamp (by omega), hp (h - 1) (by omega)]
                unfold fX5_holds_213 fX5_holds_294
                rw [gIn_nI (by omega) (by decide), nI_clamp (by omega), gIn_nI (by omega) (by decide), nm_of, nm_of, nI_1]
                cases d : p (h - 1) with
                | false =>
                  rw [d] at hr
                  rw [if_pos (show b2 (false = true) = 0 from rfl)]
                  exact ih h (ub p (h - 1) (!false)) _ h' p' (by omega) (by omega) (by omega) ((hp.sub (show h - 1 ≤ h by omega)).put (!false) rfl (by omega)) hr hz
                | true =>
                  rw [d] at hr
                  rw [if_neg (by decide)]
                  exact ih h (ub p (h - 1) (!true)) _ h' p' (by omega) (by omega) (by omega) ((hp.sub (show h - 1 ≤ h by omega)).put (!true) rfl (by omega)) hr hz
            · rw [if_neg c4]
              rw [if_neg c4] at hr
              by_cases c5 : h < 2
              · rw [if_pos c5] at hr; cases hr
              · rw [if_neg c5] at hr
                have e1 : nI h + (-1) = nI (h - 1) := by
                  have : nI h = nI (h - 1) + 1 := by rw [nI_1]; congr 1; omega
                  rw [this, Int32.add_assoc]
                  show nI (h - 1) + 0 = _
                  simp
                rw [nm_of, e1, fa_lit 141, ite_eqN (by omega) (by decide), fa_lit 1, nI_sub1 (by omega), show h - 1 - 1 = h - 2 by omega]
                have hq : ∀ (v : Bool) (x : Int32), x = b2 (v = true) → (if cc = 141 then p (h - 2) && p (h - 1) else p (h - 2) || p (h - 1)) = v → Ret (fX5_holds_293 s ag pile (nI (h - 2)) x (nI g) (nI l) (nI m) (nI (h - 1)) (nI i)) (b2 (m = 0 ∨ p' 0 = true)) (fun _ => True) := by
                  intro v x ex ev
                  rw [ev] at hr
                  unfold fX5_holds_293 fX5_holds_294
                  rw [gIn_nI (by omega) (by decide), nI_clamp (by omega), nm_of, nI_1, ex, nar_b2]
                  exact ih (h - 1) (ub p (h - 2) v) _ h' p' (by omega) (by omega) (by omega) ((hp.sub (show h - 2 ≤ h by omega)).put v rfl (by omega)) hr hz
                unfold fX5_holds_262 fX5_holds_288
                rw [gIn_nI (by omega) (by decide), gIn_nI (by omega) (by decide), gIn_nI (by omega) (by decide), gIn_nI (by omega) (by decide), nI_clamp (by omega), nI_clamp (by omega), hp (h - 2) (by omega), hp (h - 1) (by omega)]
                by_cases c6 : cc = 141
                · rw [if_pos c6]
                  rw [if_pos c6] at hq
                  cases d1 : p (h - 2) with
                  | false => rw [if_pos (show b2 (false = true) = 0 from rfl)]; exact hq false 0 rfl (by rw [d1]; rfl)
                  | true =>
                    rw [if_neg (by decide)]
                    cases d2 : p (h - 1) with
                    | false => rw [if_pos (show b2 (false = true) = 0 from rfl)]; exact hq false 0 rfl (by rw [d1, d2]; rfl)
                    | true => rw [if_neg (by decide)]; exact hq true 1 rfl (by rw [d1, d2]; rfl)
                · rw [if_neg c6]
                  rw [if_neg c6] at hq
                  cases d1 : p (h - 2) with
                  | true => rw [if_neg (by decide)]; exact hq true 1 rfl (by rw [d1]; rfl)
                  | false =>
                    rw [if_pos (show b2 (false = true) = 0 from rfl)]
                    cases d2 : p (h - 1) with
                    | false => rw [if_pos (show b2 (false = true) = 0 from rfl)]; exact hq false 0 rfl (by rw [d1, d2]; rfl)
                    | true => rw [if_neg (by decide)]; exact hq true 1 rfl (by rw [d1, d2]; rfl)
          · rw [if_neg c3, ite_eqN (by omega) (by decide)]
            rw [if_pos (show cc < 140 by omega)] at hr
            unfold fX5_holds_173 fX5_holds_294
            rw [gIn_nI (by omega) (by decide), gIn_nI (by omega) (by decide), nI_clamp (by omega), nm_of, nm_of, nm_of, nm_of, nI_1, nI_1]
            by_cases c4 : cc = 130
            · rw [if_pos c4]
              rw [decide_eq_true c4] at hr
              exact ih (h + 1) _ _ h' p' (by omega) (by omega) (by omega) (hp.put true nar_1 (by omega)) hr hz
            · rw [if_neg c4]
              rw [decide_eq_false c4] at hr
              exact ih (h + 1) _ _ h' p' (by omega) (by omega) (by omega) (hp.put false nar_0 (by omega)) hr hz
        · rw [if_neg c2, oth_m hl hg, bR_some, nm_of, rem10_i cc hc]
          have ho : pop (clr l g) < 9 := by have := pop_le (clr l g); omega
          generalize pop (clr l g) = o at ho hr ih ⊢
          obtain ⟨k1, k2, k3⟩ := diff_i o ho (cc % 10) (Nat.mod_lt _ (by decide))
          have hq : ∀ (v : Bool) (x : Int32), x = b2 (v = true) → rn o l cs (i + 1) (m - (i + 1)) (h + 1) (ub p h v) = some (h', p') → Ret (fX5_holds_139 s ag pile (nI h) x (nI g) (nI l) (nI m) (nI h) (nI i)) (b2 (m = 0 ∨ p' 0 = true)) (fun _ => True) := by
            intro v x ex hr
            unfold fX5_holds_139 fX5_holds_294
            rw [gIn_nI (by omega) (by decide), nI_clamp (by omega), nm_of, nm_of, nI_1, nI_1, ex, nar_b2]
            exact ih (h + 1) _ _ h' p' (by omega) (by omega) (by omega) (hp.put v rfl (by omega)) hr hz
          rw [fa_lit 110, ite_le (by decide) (by omega), fa_lit 120, ite_le (by decide) (by omega)]
          by_cases c3 : 110 ≤ cc
          · rw [if_pos c3]
            rw [if_neg (show ¬ cc < 110 by omega)] at hr
            by_cases c4 : 120 ≤ cc
            · rw [if_pos c4]
              rw [if_neg (show ¬ cc < 120 by omega), if_pos (show cc < 130 by omega)] at hr
              by_cases c5 : nI o - nI (cc % 10) ≤ 0
              · rw [if_pos c5]
                rw [decide_eq_false (show ¬ cc % 10 < o by have := k1.mp c5; omega)] at hr
                exact hq false 0 rfl hr
              · rw [if_neg c5]
                rw [decide_eq_true (show cc % 10 < o from Nat.not_le.mp fun q => c5 (k1.mpr q))] at hr
                exact hq true 1 rfl hr
            · rw [if_neg c4]
              rw [if_pos (show cc < 120 by omega)] at hr
              by_cases c5 : nI o - nI (cc % 10) = 0
              · rw [if_pos c5]
                rw [decide_eq_true (k2.mp c5)] at hr
                exact hq true 1 rfl hr
              · rw [if_neg c5]
                rw [decide_eq_false (fun q => c5 (k2.mpr q))] at hr
                exact hq false 0 rfl hr
          · rw [if_neg c3]
            rw [if_pos (show cc < 110 by omega)] at hr
            by_cases c5 : (0 : Int32) ≤ nI o - nI (cc % 10)
            · rw [if_pos c5]
              rw [decide_eq_false (show ¬ o < cc % 10 by have := k3.mp c5; omega)] at hr
              exact hq false 0 rfl hr
            · rw [if_neg c5]
              rw [decide_eq_true (show o < cc % 10 from Nat.not_le.mp fun q => c5 (k3.mpr q))] at hr
              exact hq true 1 rfl hr
      · rw [if_neg c1, hasM_i hl (by omega), bR_some, gIn_nI (by omega) (by decide), nm_of, nI_1, nI_clamp (by omega)]
        rw [if_pos (show cc < 8 by omega)] at hr
        unfold fX5_holds_294
        rw [nm_of, nI_1, nar_b2]
        exact ih (h + 1) _ _ h' p' (by omega) (by omega) (by omega) (hp.put (l.testBit cc) rfl (by omega)) hr hz
/-- the term of one, as the reference keeps it -/
def TK (g : Nat) (H : Nat → Bool) (s : Nat → Int32) : Prop := ∃ (m : Nat) (cs : Nat → Nat), m ≤ 60 ∧ s (4 + 3 * g) = nI m ∧ (∀ k, k < m → cs k < 143 ∧ s (26 + 64 * g + k) = nI (cs k)) ∧ (m = 0 → ∀ l, l < 256 → H l = true) ∧ (0 < m → ∀ l, l < 256 → Seg (pop (clr l g)) l cs 0 m (H l))
def PM (n : Nat) (kd : Nat → Nat) (Hh : Nat → Nat → Bool) (s : Nat → Int32) : Prop := n ≤ 8 ∧ s 0 = nI n ∧ (∀ g, g < n → kd g < 6 ∧ s (2 + 3 * g) = nI (kd g)) ∧ ∀ g, g < n → TK g (Hh g) s
theorem its_eq (s : Nat → Int32) {g w : Nat} (hg : g < 8) (hw : w < 3) : fX5_its s (nI g) (nI w) = some (s (2 + 3 * g + w), ()) := by
  unfold fX5_its
  have e : 2 + 3 * nI g + nI w = nI (2 + 3 * g + w) := by rw [fa_lit 2, fa_lit 3, nI_mulL, nI_add, nI_add]
  rw [e, gIn_nI (by omega) (by decide), nI_clamp (by omega)]
theorem holds_r {s : Nat → Int32} {g l : Nat} {H : Nat → Bool} (hg : g < 8) (hl : l < 256) (T : TK g H s) (pile : Nat → Int32) : Ret (fX5_holds s pile (nI g) (nI l)) (b2 (H l = true)) (fun _ => True) := by
  obtain ⟨m, cs, hm, h1, h2, h3, h4⟩ := T
  unfold fX5_holds
  rw [fa_lit 2, its_eq s hg (by decide), bR_some, show 2 + 3 * g + 2 = 4 + 3 * g by omega, h1]
  by_cases c : m = 0
  · subst c
    have := holds_loop (s := s) (cs := cs) hg hl (by decide : (0 : Nat) ≤ 60) (fun k hk => absurd hk (by omega)) 1024 0 0 (fun _ => false) pile 0 (fun _ => false) (by omega) (by omega) (by omega) (fun j hj => absurd hj (by omega)) rfl (fun q => absurd q (by omega))
    rw [b2_t (show (0 : Nat) = 0 ∨ _ from Or.inl rfl)] at this
    rw [b2_t (h3 rfl l hl)]
    exact this
  · obtain ⟨p', e, hv, -⟩ := h4 (by omega) l hl 0 (fun _ => false)
    have := holds_loop hg hl hm h2 1024 0 0 (fun _ => false) pile 1 p' (by omega) (by omega) (by omega) (fun j hj => absurd hj (by omega)) (by rw [Nat.sub_zero]; exact e) (fun _ => by omega)
    rw [hv, b2_congr (show (m = 0 ∨ H l = true) ↔ H l = true from ⟨fun q => q.resolve_left c, Or.inr⟩)] at this
    exact this
end
section
theorem its_0 (s : Nat → Int32) {g : Nat} (hg : g < 8) : fX5_its s (nI g) 0 = some (s (2 + 3 * g), ()) := its_eq s (w := 0) hg (by decide)
theorem its_1 (s : Nat → Int32) {g : Nat} (hg : g < 8) : fX5_its s (nI g) 1 = some (s (3 + 3 * g), ()) := by
  have := its_eq s (w := 1) hg (by decide)
  rw [show 2 + 3 * g + 1 = 3 + 3 * g by omega] at this
  exact this
theorem its_2 (s : Nat → Int32) {g : Nat} (hg : g < 8) : fX5_its s (nI g) 2 = some (s (4 + 3 * g), ()) := by
  have := its_eq s (w := 2) hg (by decide)
  rw [show 2 + 3 * g + 2 = 4 + 3 * g by omega] at this
  exact this
theorem ret_if {κ : Type} {h : Bool} {Q : κ → Prop} {k : κ} (hk : Q k) {p : Prop} [Decidable p] (e : p ↔ h = true) : Ret (if b2 (h = true) = 0 then some ((0 : Int32), k) else some (1, k)) (b2 p) Q := by
  rw [ite_b2]
  by_cases c : h = true
  · rw [if_pos c, b2_t (e.mpr c)]; exact Ret.mk hk
  · rw [if_neg c, b2_f (fun q => c (e.mp q))]; exact Ret.mk hk
theorem ret_if' {κ : Type} {h : Bool} {Q : κ → Prop} {k : κ} (hk : Q k) {p : Prop} [Decidable p] (e : p ↔ ¬ h = true) : Ret (if b2 (h = true) = 0 then some ((1 : Int32), k) else some (0, k)) (b2 p) Q := by
  rw [ite_b2]
  by_cases c : h = true
  · rw [if_pos c, b2_f (fun q => e.mp q c)]; exact Ret.mk hk
  · rw [if_neg c, b2_t (e.mpr c)]; exact Ret.mk hk
section MOD
variable {n : Nat} {kd : Nat → Nat} {Hh : Nat → Nat → Bool} {s : Nat → Int32}
theorem comesBy_r (M : PM n kd Hh s) {g l : Nat} (hg : g < n) (hl : l < 256) (pile : Nat → Int32) : Ret (fX5_comesBy s pile (nI g) (nI l)) (b2 (cm (kd g) (Hh g l) (pop (clr l g)) = true)) (fun _ => True) := by
  obtain ⟨hn, h0, hk, hT⟩ := M
  have T := holds_r (by omega) hl (hT g hg) pile
  obtain ⟨hk6, hkg⟩ := hk g hg
  unfold fX5_comesBy
  rw [oth_m hl (by omega), bR_some, its_0 s (by omega), bR_some, hkg]
  have ho : pop (clr l g) < 9 := by have := pop_le (clr l g); omega
  generalize pop (clr l g) = o at ho ⊢
  generalize Hh g l = h at T ⊢
  generalize kd g = k at hk6 ⊢
  match k, hk6 with
  | 0, _ =>
    rw [if_pos (by decide)]
    refine Ret.b1 T (fun k4 _ => ?_)
    rw [gB_b2]
    exact Ret.mk' (b2_congr (by simp [cm])) trivial
  | 1, _ =>
    rw [if_neg (by decide), if_pos (by decide), fa_lit 3, ite_lt (by decide) (by omega)]
    by_cases c : 3 < o
    · rw [if_pos c, b2_t (by have : 4 ≤ o := c; simp [cm, this])]; exact Ret.mk trivial
    · rw [if_neg c]
      refine Ret.b1 T (fun k4 _ => ret_if trivial ?_)
      have : ¬ 4 ≤ o := by omega
      simp [cm, this]
  | 2, _ =>
    rw [if_neg (by decide), if_neg (by decide), if_pos (by decide), fa_lit 5, ite_le (by decide) (by omega)]
    by_cases c : 5 ≤ o
    · rw [if_pos c, b2_f (by have : ¬ o ≤ 4 := by omega
                             simp [cm, this])]; exact Ret.mk trivial
    · rw [if_neg c]
      refine Ret.b1 T (fun k4 _ => ret_if trivial ?_)
      have : o ≤ 4 := by omega
      simp [cm, this]
  | 3, _ =>
    rw [if_neg (by decide), if_neg (by decide), if_neg (by decide), if_pos (by decide), b2_f (by simp [cm])]
    exact Ret.mk trivial
  | 4, _ =>
    rw [if_neg (by decide), if_neg (by decide), if_neg (by decide), if_neg (by decide), if_pos (by decide), fa_lit 3, ite_lt (by decide) (by omega)]
    by_cases c : 3 < o
    · rw [if_pos c, b2_t (by have : 4 ≤ o := c; simp [cm, this])]; exact Ret.mk trivial
    · rw [if_neg c, fa_lit 0, ite_eqN (by omega) (by decide)]
      by_cases c2 : o = 0
      · rw [if_pos c2, b2_t (by simp [cm, c2])]; exact Ret.mk trivial
      · rw [if_neg c2]
        refine Ret.b1 T (fun k4 _ => ret_if trivial ?_)
        have : ¬ 4 ≤ o := by omega
        simp [cm, this, c2]
  | 5, _ =>
    rw [if_neg (by decide), if_neg (by decide), if_neg (by decide), if_neg (by decide), if_neg (by decide), if_pos (by decide), fa_lit 4, ite_lt (by decide) (by omega)]
    by_cases c : 4 < o
    · rw [if_pos c, b2_t (by have : ¬ o ≤ 4 := by omega
                             simp [cm, this])]; exact Ret.mk trivial
    · rw [if_neg c]
      refine Ret.b1 T (fun k4 _ => ret_if' trivial ?_)
      have : o ≤ 4 := by omega
      simp [cm, this]
  | k + 6, h => exact absurd h (by omega)
theorem would_loop (M : PM n kd Hh s) {l : Nat} (hl : l < 256) : ∀ (f i : Nat) (pile : Nat → Int32), i ≤ n → n - i < f → Ret (ll4 (fX5_would_4 s) f pile (nI l) (nI (wdn (fun g => cm (kd g) (Hh g l) (pop (clr l g))) i)) (nI i)) (nI (Wd n kd Hh l)) (fun _ => True)
  | 0, i, _, _, h => absurd h (by omega)
  | f + 1, i, pile, hi, hf => by
    have ih := would_loop M hl f (i + 1)
    have hn := M.1
    have h0 := M.2.1
    show Ret (fX5_would_4 s (ll4 (fX5_would_4 s) f) pile (nI l) (nI (wdn (fun g => cm (kd g) (Hh g l) (pop (clr l g))) i)) (nI i)) _ _
    generalize ll4 (fX5_would_4 s) f = ag at ih ⊢
    unfold fX5_would_4
    rw [h0, ite_le (by omega) (by omega)]
    by_cases c : n ≤ i
    · have e : i = n := by omega
      rw [if_pos c, e]
      exact Ret.mk trivial
    · rw [if_neg c]
      refine Ret.b1 (comesBy_r M (by omega) hl pile) (fun k _ => ?_)
      have ih := ih k (by omega) (by omega)
      rw [ite_b2]
      unfold fX5_would_31
      by_cases d : cm (kd i) (Hh i l) (pop (clr l i)) = true
      · rw [if_pos d, nm_of, nm_of, bit_i i (by omega), fa_or, nI_1]
        have e : wdn (fun g => cm (kd g) (Hh g l) (pop (clr l g))) (i + 1) = wdn (fun g => cm (kd g) (Hh g l) (pop (clr l g))) i ||| 2 ^ i := by
          show _ ||| (if _ then _ else _) = _
          rw [if_pos d]
        rw [e] at ih
        exact ih
      · rw [if_neg d, nm_of, nm_of, fa_lit 0, fa_or, nI_1]
        have e : wdn (fun g => cm (kd g) (Hh g l) (pop (clr l g))) (i + 1) = wdn (fun g => cm (kd g) (Hh g l) (pop (clr l g))) i ||| 0 := by
          show _ ||| (if _ then _ else _) = _
          rw [if_neg d]
        rw [e] at ih
        exact ih
theorem would_r (M : PM n kd Hh s) {l : Nat} (hl : l < 256) (pile : Nat → Int32) : Ret (fX5_would s pile (nI l)) (nI (Wd n kd Hh l)) (fun _ => True) := would_loop M hl 1024 0 pile (by omega) (by have := M.1; omega)
theorem lists_m (M : PM n kd Hh s) : fX5_lists s = some (nI (2 ^ n), ()) := by
  unfold fX5_lists
  rw [M.2.1, bit_i n (by have := M.1; omega)]
theorem lists_c (hn : n ≤ 8) : fX0_lists (nI n) = some (nI (2 ^ n), ()) := by
  unfold fX0_lists
  rw [bit_i n (by omega)]
theorem everyone_c (hn : n ≤ 8) : fX0_everyone (nI n) = some (nI (2 ^ n - 1), ()) := by
  unfold fX0_everyone
  rw [lists_c hn, bR_some, fa_lit 1, nI_sub1 (Nat.one_le_two_pow)]
/-- wishes looked up -/
def WV (n : Nat) (kd : Nat → Nat) (Hh : Nat → Nat → Bool) (w : Nat → Int32) : Prop := ∀ l, l < 2 ^ n → w l = nI (Wd n kd Hh l)
theorem looksAll_loop (M : PM n kd Hh s) : ∀ (f i : Nat) (pile w : Nat → Int32), i ≤ 2 ^ n → 2 ^ n - i < f → (∀ l, l < i → w l = nI (Wd n kd Hh l)) → RetV (ll3 (fX5_looksAll_2 s) f pile w (nI i)) (fun k => WV n kd Hh k.2)
  | 0, i, _, _, _, h, _ => absurd h (by omega)
  | f + 1, i, pile, w, hi, hf, hw => by
    have ih := looksAll_loop M f (i + 1)
    have hN := two_le M.1
    show RetV (fX5_looksAll_2 s (ll3 (fX5_looksAll_2 s) f) pile w (nI i)) _
    generalize ll3 (fX5_looksAll_2 s) f = ag at ih ⊢
    unfold fX5_looksAll_2
    rw [lists_m M, bR_some, ite_le (by omega) (by omega)]
    by_cases c : 2 ^ n ≤ i
    · have e : i = 2 ^ n := by omega
      rw [if_pos c]
      exact RetV.mk (fun l hl => hw l (by omega))
    · rw [if_neg c]
      refine Ret.b1V (would_r M (by omega) pile) (fun k _ => ?_)
      rw [gIn_nI (by omega) (by decide), nm_of, nI_1, nI_clamp (by omega)]
      refine ih k _ (by omega) (by omega) (fun l hl => ?_)
      by_cases d : l = i
      · subst d; rw [pk_us]
      · rw [pk_un d]; exact hw l (by omega)
theorem looksAll_r (M : PM n kd Hh s) (pile w : Nat → Int32) : RetV (fX5_looksAll s pile w) (fun k => WV n kd Hh k.2) := looksAll_loop M 1024 0 pile w (Nat.zero_le _) (by have := two_le M.1; omega) (fun l hl => absurd hl (by omega))
theorem costOf_loop {co : Nat → Nat} (hn : n ≤ 8) (h0 : s 0 = nI n) (hc : ∀ g, g < n → co g < 100 ∧ s (3 + 3 * g) = nI (co g)) {l : Nat} (hl : l < 256) : ∀ (f i : Nat), i ≤ n → n - i < f → ll3 (fX5_costOf_4 s) f (nI l) (nI (csum co l i)) (nI i) = some (nI (csum co l n), ())
  | 0, i, _, h => absurd h (by omega)
  | f + 1, i, hi, hf => by
    have ih := costOf_loop hn h0 hc hl f (i + 1)
    show fX5_costOf_4 s (ll3 (fX5_costOf_4 s) f) (nI l) (nI (csum co l i)) (nI i) = _
    generalize ll3 (fX5_costOf_4 s) f = ag at ih ⊢
    unfold fX5_costOf_4
    rw [h0, ite_le (by omega) (by omega)]
    by_cases c : n ≤ i
    · have e : i = n := by omega
      rw [if_pos c, e]
    · rw [if_neg c, hasM_i hl (by omega), bR_some, ite_b2]
      have ih := ih (by omega) (by omega)
      unfold fX5_costOf_33
      by_cases d : l.testBit i = true
      · rw [if_pos d, its_1 s (by omega), bR_some, (hc i (by omega)).2, nm_of, nm_of, nI_add, nI_1]
        have e : csum co l (i + 1) = csum co l i + co i := by show _ + (if _ then _ else _) = _; rw [if_pos d]
        rw [e] at ih
        exact ih
      · rw [if_neg d, nm_of, nm_of, fa_lit 0, nI_add, nI_1]
        have e : csum co l (i + 1) = csum co l i + 0 := by show _ + (if _ then _ else _) = _; rw [if_neg d]
        rw [e] at ih
        exact ih
theorem costOf_eq {co : Nat → Nat} (hn : n ≤ 8) (h0 : s 0 = nI n) (hc : ∀ g, g < n → co g < 100 ∧ s (3 + 3 * g) = nI (co g)) {l : Nat} (hl : l < 256) : fX5_costOf s (nI l) = some (nI (csum co l n), ()) := costOf_loop hn h0 hc hl 1024 0 (by omega) (by omega)
end MOD
end
