section QC
variable {p : Program} {l : Launch} {e : Env} {R : Room} {s : State} {m : MethodId} {args : Array Value} {below : List Frame} {meth : Method} {c : Code} {H : Heap} {locs : List Loc} {cells slots : Nat} {Q : State → Prop}
variable {cc bytes : ByteArray} {pc nL maxL n mc ms index : Nat} {ls : Array Slot} {rest As st0 : List Value} {D : va_G} {A : Nat → Prop} {a b tb : Nat} {cI cJ cZ cS : ClassId} {ws ws' wc w1 : va_W} {own C : String} {y : MethodName} {ret ret0 : Option FieldType} {rm : Room}
theorem q_runV {Qc : Array Value → State → Outcome → State → Prop} (fx : q_Fx p s m args meth c cc nL own ret0 D cI cJ cZ cS tb A) (h : q_H D A s ws H locs) (hsz : ls.size = nL) (is : List Nat) (hC : is.map (fun i => ws[i]?) = wc.map some) (hn : va_nd is = true)
    (hM : Met l y (Cond.code y bytes maxL ret :: wA) rm (q_Pre D cI cJ cZ cS tb (.ref b :: As) H.size wc) Qc mc ms (va_A wc H.size)) (hy : q_MV y bytes maxL ret C n) (hlink : Cond.methodLink own index y ∈ wA) (hrm : rm.cells = mc ∧ rm.slots = ms) (hR : rm.frames + 1 ≤ R.frames ∧ 8 + (maxL + 11) + rm.locals ≤ R.locals)
    {ci : Nat} {fs : List Value} {T : u_T} {N : Nat} (hq : wc[0]? = some (b, .inr (ci, fs))) (hcl : vwCl[ci]? = some (C, T, N)) (hAs : As.length = n) (hst : st0 = As.reverse ++ .ref b :: rest) (hroom : (rest.map fun v => v.category).sum ≤ 8) (hdg : decode cc pc = .ok (.invokevirtual index, 3)) (hce : cells + mc ≤ R.cells ∧ slots + ms ≤ R.slots) :
    va_Run p l e R s m args below meth c H locs cells slots mc ms (F0 m pc ls st0) rest (Qc (Value.ref b :: As).toArray) (va_A wc H.size) := by
  obtain ⟨hx, hb, hml, hown, hts, -, -, hG, hA⟩ := fx
  obtain ⟨y1, y2, y3, y4, y5⟩ := hy
  refine va_runV (g := F0 m pc ls st0) ⟨hx, hb, hml, hown, hts⟩ hM ⟨callB_of n hts (wA_good _ y1) rfl hrm.1 hrm.2 (y5.1 ▸ hts _ y4) (hts _ hlink) y5.2 hR, hts _ y2, hts _ y3⟩ ⟨q_blind, va_recv hG.1 (q_Psub h.1 hC) hcl hq, q_give hG hA h hC hn⟩ rfl hAs hsz hst (lv_room hroom) hdg hce
theorem q_runVN {Qc : Array Value → State → Outcome → State → Prop} {host : String} (fx : q_Fx p s m args meth c cc nL own ret0 D cI cJ cZ cS tb A) (h : q_H D A s ws H locs) (hsz : ls.size = nL) (is : List Nat) (hC : is.map (fun i => ws[i]?) = wc.map some) (hn : va_nd is = true)
    (hM : Met l y (Cond.code y bytes maxL ret :: wA) rm (q_Pre D cI cJ cZ cS tb (.ref b :: As) H.size wc) Qc mc ms (va_A wc H.size)) (hy : q_MV y bytes maxL ret C n) (hlink : (own, index, y, host) ∈ nM) (hrm : rm.cells = mc ∧ rm.slots = ms) (hR : rm.frames + 1 ≤ R.frames ∧ 8 + (maxL + 11) + rm.locals ≤ R.locals)
    {ci : Nat} {fs : List Value} {T : u_T} {N : Nat} (hq : wc[0]? = some (b, .inr (ci, fs))) (hcl : vwCl[ci]? = some (C, T, N)) (hAs : As.length = n) (hst : st0 = As.reverse ++ .ref b :: rest) (hroom : (rest.map fun v => v.category).sum ≤ 8) (hdg : decode cc pc = .ok (.invokevirtual index, 3)) (hce : cells + mc ≤ R.cells ∧ slots + ms ≤ R.slots) :
    va_Run p l e R s m args below meth c H locs cells slots mc ms (F0 m pc ls st0) rest (Qc (Value.ref b :: As).toArray) (va_A wc H.size) := by
  obtain ⟨hx, hb, hml, hown, hts, -, -, hG, hA⟩ := fx
  obtain ⟨y1, y2, y3, y4, y5⟩ := hy
  refine va_runVN (host := host) (g := F0 m pc ls st0) ⟨hx, hb, hml, hown, hts⟩ hM ⟨va_cnB n hts (wA_good _ y1) rfl hrm.1 hrm.2 (hG.2.1.2 _ hlink) (y5.1 ▸ hts _ y4) y5.2 hR, hts _ y2, hts _ y3⟩ ⟨q_blind, va_recv hG.1 (q_Psub h.1 hC) hcl hq, q_give hG hA h hC hn⟩ rfl hAs hsz hst (lv_room hroom) hdg hce
theorem q_runS {Qc : Array Value → State → Outcome → State → Prop} (fx : q_Fx p s m args meth c cc nL own ret0 D cI cJ cZ cS tb A) (h : q_H D A s ws H locs) (hsz : ls.size = nL) (is : List Nat) (hC : is.map (fun i => ws[i]?) = wc.map some) (hn : va_nd is = true)
    (hM : Met l y (Cond.code y bytes maxL ret :: wA) rm (q_Pre D cI cJ cZ cS tb As H.size wc) Qc mc ms (va_A wc H.size)) (hy : q_MS y bytes maxL ret n) (hlink : Cond.methodLink own index y ∈ wA) (hrm : rm.cells = mc ∧ rm.slots = ms) (hR : rm.frames + 1 ≤ R.frames ∧ 8 + (maxL + 11) + rm.locals ≤ R.locals)
    (hAs : As.length = n) (hst : st0 = As.reverse ++ rest) (hroom : (rest.map fun v => v.category).sum ≤ 8) (hdg : decode cc pc = .ok (.invokestatic index, 3)) (hce : cells + mc ≤ R.cells ∧ slots + ms ≤ R.slots) :
    va_Run p l e R s m args below meth c H locs cells slots mc ms (F0 m pc ls st0) rest (Qc As.toArray) (va_A wc H.size) := by
  obtain ⟨hx, hb, hml, hown, hts, -, -, hG, hA⟩ := fx
  obtain ⟨y1, y2, y3, y4⟩ := hy
  refine va_runS (g := F0 m pc ls st0) ⟨hx, hb, hml, hown, hts⟩ hM ⟨callB_of n hts (wA_good _ y1) rfl hrm.1 hrm.2 (hts _ y3) (hts _ hlink) y4 hR, hts _ y2⟩ ⟨q_blind, q_give hG hA h hC hn⟩ rfl hAs hsz hst (lv_room hroom) hdg hce
theorem q_runSN {Qc : Array Value → State → Outcome → State → Prop} {host : String} (fx : q_Fx p s m args meth c cc nL own ret0 D cI cJ cZ cS tb A) (h : q_H D A s ws H locs) (hsz : ls.size = nL) (is : List Nat) (hC : is.map (fun i => ws[i]?) = wc.map some) (hn : va_nd is = true)
    (hM : Met l y (Cond.code y bytes maxL ret :: wA) rm (q_Pre D cI cJ cZ cS tb As H.size wc) Qc mc ms (va_A wc H.size)) (hy : q_MS y bytes maxL ret n) (hlink : (own, index, y, host) ∈ nM) (hrm : rm.cells = mc ∧ rm.slots = ms) (hR : rm.frames + 1 ≤ R.frames ∧ 8 + (maxL + 11) + rm.locals ≤ R.locals)
    (hAs : As.length = n) (hst : st0 = As.reverse ++ rest) (hroom : (rest.map fun v => v.category).sum ≤ 8) (hdg : decode cc pc = .ok (.invokestatic index, 3)) (hce : cells + mc ≤ R.cells ∧ slots + ms ≤ R.slots) :
    va_Run p l e R s m args below meth c H locs cells slots mc ms (F0 m pc ls st0) rest (Qc As.toArray) (va_A wc H.size) := by
  obtain ⟨hx, hb, hml, hown, hts, -, -, hG, hA⟩ := fx
  obtain ⟨y1, y2, y3, y4⟩ := hy
  refine va_runSN (host := host) (g := F0 m pc ls st0) ⟨hx, hb, hml, hown, hts⟩ hM ⟨va_cnB n hts (wA_good _ y1) rfl hrm.1 hrm.2 (hG.2.1.2 _ hlink) (hts _ y3) y4 hR, hts _ y2, trivial⟩ ⟨q_blind, q_give hG hA h hC hn⟩ rfl hAs hsz hst (lv_room hroom) hdg hce
end QC
