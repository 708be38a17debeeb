theorem q_Dsame {A : Nat → Prop} {ws ws' : va_W} (hD : va_D A ws) (e : ws'.map Prod.fst = ws.map Prod.fst) : va_D A ws' := by
  have key : ∀ (i : Nat) (p : Nat × va_E), ws'[i]? = some p → ∃ p0, ws[i]? = some p0 ∧ p0.1 = p.1 := by
    intro i p h
    have h1 : (ws'.map Prod.fst)[i]? = some p.1 := by rw [List.getElem?_map, h]; rfl
    rw [e, List.getElem?_map] at h1
    cases h2 : ws[i]? with
    | none => rw [h2] at h1; cases h1
    | some p0 => rw [h2] at h1; exact ⟨p0, rfl, Option.some.inj h1⟩
  refine ⟨fun i j p q hp hq hpq => ?_, fun k q hq => ?_⟩
  · obtain ⟨p0, a1, a2⟩ := key i p hp
    obtain ⟨q0, b1, b2⟩ := key j q hq
    exact hD.1 i j p0 q0 a1 b1 (by rw [a2, b2, hpq])
  · obtain ⟨q0, b1, b2⟩ := key k q hq
    rw [← b2]
    exact hD.2 k q0 b1
theorem q_Psub {D : va_G} {cl : List vw_C} {ws wc : va_W} {H : Heap} (hP : va_P D cl ws H) {is : List Nat} (hC : is.map (fun i => ws[i]?) = wc.map some) : va_P D cl wc H := by
  intro k q hq
  have h1 : (is.map (fun i => ws[i]?))[k]? = some (some q) := by rw [hC, List.getElem?_map, hq]; rfl
  rw [List.getElem?_map] at h1
  cases hi : is[k]? with
  | none => rw [hi] at h1; cases h1
  | some i => rw [hi] at h1; exact hP i q (Option.some.inj h1)
/-- behind a call: the callee's cells as it left them, all others as they were -/
theorem q_back {D : va_G} {A : Nat → Prop} {s : State} {ws wc w1 ws' : va_W} {H H1 : Heap} {locs : List Loc} {is : List Nat} (h : q_H D A s ws H locs) (hC : is.map (fun i => ws[i]?) = wc.map some) (hF : w1.length = is.length) (hE : q_upd ws is w1 = ws') (hfst : ws'.map Prod.fst = ws.map Prod.fst)
    (hk : ∀ q : Nat, q < H.size → ¬ va_A wc H.size q → H1[q]? = H[q]?) (hP1 : va_P D vwCl w1 H1) : va_P D vwCl ws' H1 ∧ va_D A ws' := by
  obtain ⟨hP, hD, -⟩ := h
  subst hE
  refine ⟨fun j q hq => ?_, q_Dsame hD hfst⟩
  rcases q_upd_get is w1 ws hF.symm j q hq with ⟨k, h1, h2⟩ | ⟨h1, h2⟩
  · exact hP1 k q h1
  · refine (hP j q h1).kept (hk q.1 (hP j q h1).lt ?_)
    rintro (⟨k2, e2, h3⟩ | h3)
    · have h4 : (is.map (fun i => ws[i]?))[k2]? = some (some (q.1, e2)) := by rw [hC, List.getElem?_map, h3]; rfl
      rw [List.getElem?_map] at h4
      cases hi : is[k2]? with
      | none => rw [hi] at h4; cases h4
      | some i =>
        rw [hi] at h4
        have hij := hD.1 j i q (q.1, e2) h1 (Option.some.inj h4) rfl
        subst hij
        exact h2 (List.mem_of_getElem? hi)
    · have := (hP j q h1).lt
      omega
/-- what a callee wants of the caller's state -/
theorem q_give {D : va_G} {cI cJ cZ cS : ClassId} {tb : Nat} {A : Nat → Prop} {s : State} {ws wc : va_W} {H : Heap} {locs : List Loc} {is : List Nat} {av : List Value} (hG : q_G D cI cJ cZ cS tb A s) (hA : ∀ q, s.heap.size ≤ q → A q) (h : q_H D A s ws H locs) (hC : is.map (fun i => ws[i]?) = wc.map some) (hn : va_nd is = true) :
    ∀ U : State, U.heap = H → s.WarmedH U.vm → q_Pre D cI cJ cZ cS tb av H.size wc av.toArray U := by
  intro U hU hW
  obtain ⟨hP, hD, hS⟩ := h
  obtain ⟨g1, g2, g3, g4, g5⟩ := hG
  have hFc := va_free (wc := wc) hD hS hA is hC
  have hal := hW.alike
  refine ⟨rfl, by rw [hU], by rw [hU]; exact q_Psub hP hC, ⟨va_K.moved hal g1, g2.warm hW, va_AO.moved hal g3, ?_, ?_⟩, (hD.sub is hn hC).weaken (fun _ _ _ _ => trivial)⟩
  · rw [hU]
    exact va_Z.moved hal ((g4.kept (fun a h1 h2 => hS.2.1 a h1 h2)).narrow hFc)
  · rw [hU]
    exact va_T.moved hal ((g5.kept (fun a h1 h2 => hS.2.1 a h1 h2)).narrow hFc)
section QR
variable {p : Program} {l : Launch} {e : Env} {R : Room} {s : State} {m : MethodId} {args : Array Value} {below : List Frame} {meth : Method} {c : Code} {H : Heap} {locs : List Loc} {cells slots : Nat} {Q : State → Prop}
variable {cc bytes : ByteArray} {pc nL maxL n mc ms index : Nat} {ls : Array Slot} {rest As : List Value} {D : va_G} {A : Nat → Prop} {a b tb : Nat} {cI cJ cZ cS : ClassId} {ws ws' wc w1 : va_W} {own C : String} {y : MethodName} {ret ret0 : Option FieldType} {rm : Room}
theorem lv_eqi {x y : Int32} (h : y = x) (k : W p l e R s m args below meth c H locs cells slots Q (F0 m pc ls (.int y :: rest))) : W p l e R s m args below meth c H locs cells slots Q (F0 m pc ls (.int x :: rest)) := h ▸ k
theorem lv_eql {x y : Int64} (h : y = x) (k : W p l e R s m args below meth c H locs cells slots Q (F0 m pc ls (.long y :: rest))) : W p l e R s m args below meth c H locs cells slots Q (F0 m pc ls (.long x :: rest)) := h ▸ k
theorem q_get (fx : q_Fx p s m args meth c cc nL own ret0 D cI cJ cZ cS tb A) {T : u_T} {N ci : Nat} (hin : ∀ w ∈ u_ws C T N, w ∈ wA) (h : q_H D A s ws H locs) (q0 : Nat) {fs : List Value} (he : ws[q0]? = some (a, .inr (ci, fs))) (hc : vwCl[ci]? = some (C, T, N)) (k : Nat) (hk : k < N) (hlink : Cond.fieldLink own index (T k).1 (T k).2.1 (T k).2.2.1 ∈ wA) {v : Value} (hv : fs[k]? = some v) (hdg : decode cc pc = .ok (.getfield index, 3))
    (kk : W p l e R s m args below meth c H locs cells slots Q (F0 m (pc + 3) ls (v :: rest))) : W p l e R s m args below meth c H locs cells slots Q (F0 m pc ls (.ref a :: rest)) := by
  obtain ⟨hx, hb, -, hown, hts, -, -, hG, -⟩ := fx
  exact va_get hx hb hts hin hown hG.1 h.1 q0 he hc k hk (hts _ hlink) (fun _ h => h) hv hdg kk
theorem q_getN (fx : q_Fx p s m args meth c cc nL own ret0 D cI cJ cZ cS tb A) {T : u_T} {N ci : Nat} {host : String} (hin : ∀ w ∈ u_ws C T N, w ∈ wA) (h : q_H D A s ws H locs) (q0 : Nat) {fs : List Value} (he : ws[q0]? = some (a, .inr (ci, fs))) (hc : vwCl[ci]? = some (C, T, N)) (k : Nat) (hk : k < N) (hlink : (own, index, (T k).1, (T k).2.1, (T k).2.2.1, host) ∈ nF) {v : Value} (hv : fs[k]? = some v) (hdg : decode cc pc = .ok (.getfield index, 3))
    (kk : W p l e R s m args below meth c H locs cells slots Q (F0 m (pc + 3) ls (v :: rest))) : W p l e R s m args below meth c H locs cells slots Q (F0 m pc ls (.ref a :: rest)) := by
  obtain ⟨hx, hb, -, hown, hts, -, -, hG, -⟩ := fx
  exact va_getN hx hb hts hin hown hG.1 h.1 q0 he hc k hk (va_Nw.use rfl (hG.2.1.1 _ hlink)) (fun _ h => h) hv hdg kk
theorem q_put (fx : q_Fx p s m args meth c cc nL own ret0 D cI cJ cZ cS tb A) {T : u_T} {N ci : Nat} (hin : ∀ w ∈ u_ws C T N, w ∈ wA) (ty0 : Nat → FieldType) (hty : ∀ k, k < N → parseFieldDescriptor (T k).2.2.1 = some (ty0 k)) (hnm : ∀ a, a < N → ∀ b, b < N → a ≠ b → (T a).2.1 ≠ (T b).2.1) (h : q_H D A s ws H locs) (q0 : Nat) {fs : List Value} (he : ws[q0]? = some (a, .inr (ci, fs))) (hc : vwCl[ci]? = some (C, T, N)) (k : Nat) (hk : k < N) (hlink : Cond.fieldLink own index (T k).1 (T k).2.1 (T k).2.2.1 ∈ wA) (hfin : (T k).2.2.2 = false) {v : Value} (hn : narrow (ty0 k) v = v) (hfit : fits (ty0 k) v = true) (hl : k < fs.length) (hE : ws.set q0 (a, .inr (ci, fs.set k v)) = ws')
    (hdg : decode cc pc = .ok (.putfield index, 3)) (kk : ∀ (H : Heap) (locs : List Loc), q_H D A s ws' H locs → W p l e R s m args below meth c H locs cells slots Q (F0 m (pc + 3) ls rest)) : W p l e R s m args below meth c H locs cells slots Q (F0 m pc ls (v :: .ref a :: rest)) := by
  obtain ⟨hx, hb, -, hown, hts, -, -, hG, -⟩ := fx
  subst hE
  exact va_put hx hb hts hin ty0 hty hnm hown hG.1 h.1 h.2.1 h.2.2 q0 he hc k hk (hts _ hlink) (fun _ h => h) hfin (hty k hk) hn hfit hl hdg (fun H1 locs1 h1 h2 h3 => kk H1 locs1 ⟨h1, h2, h3⟩)
end QR
