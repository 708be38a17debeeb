section QC
variable {p : Program} {l : Launch} {e : Env} {R : Room} {s : State} {m : MethodId} {args : Array Value} {below : List Frame} {meth : Method} {c : Code} {H : Heap} {locs : List Loc} {cells slots : Nat} {Q : State → Prop}
variable {cc bytes : ByteArray} {pc nL maxL n mc ms index : Nat} {ls : Array Slot} {rest As st0 : List Value} {D : va_G} {A : Nat → Prop} {a b tb : Nat} {cI cJ cZ cS : ClassId} {ws ws' wc w1 : va_W} {own C : String} {y : MethodName} {ret ret0 : Option FieldType} {rm : Room}
theorem q_runI {Qc : Array Value → State → Outcome → State → Prop} (fx : q_Fx p s m args meth c cc nL own ret0 D cI cJ cZ cS tb A) (h : q_H D A s ws H locs) (hsz : ls.size = nL) (is : List Nat) (hC : is.map (fun i => ws[i]?) = wc.map some) (hn : va_nd is = true)
    (hM : Met l y (Cond.code y bytes maxL none :: wA) rm (q_Pre D cI cJ cZ cS tb (.ref b :: As) H.size wc) Qc mc ms (va_A wc H.size)) (hy : q_MI y bytes maxL n) (hlink : Cond.methodLink own index y ∈ wA) (hrm : rm.cells = mc ∧ rm.slots = ms) (hR : rm.frames + 1 ≤ R.frames ∧ 8 + (maxL + 11) + rm.locals ≤ R.locals)
    (hAs : As.length = n) (hst : st0 = As.reverse ++ .ref b :: rest) (hroom : (rest.map fun v => v.category).sum ≤ 8) (hdg : decode cc pc = .ok (.invokespecial index, 3)) (hce : cells + mc ≤ R.cells ∧ slots + ms ≤ R.slots) :
    va_Run p l e R s m args below meth c H locs cells slots mc ms (F0 m pc ls st0) rest (Qc (Value.ref b :: As).toArray) (va_A wc H.size) := by
  obtain ⟨hx, hb, hml, hown, hts, -, -, hG, hA⟩ := fx
  obtain ⟨y1, y2, y3, y4, y5⟩ := hy
  refine va_runI (g := F0 m pc ls st0) ⟨hx, hb, hml, hown, hts⟩ hM ⟨callB_of n hts (wA_good _ y1) rfl hrm.1 hrm.2 (hts _ y3) (hts _ hlink) y5 hR, y4, hts _ y2⟩ ⟨q_blind, q_give hG hA h hC hn⟩ rfl hAs hsz hst (lv_room hroom) hdg hce
/-- behind a call that makes nothing -/
theorem q_ci {r : Int32} {av : Array Value} (fx : q_Fx p s m args meth c cc nL own ret0 D cI cJ cZ cS tb A) (h : q_H D A s ws H locs) (is : List Nat) (hC : is.map (fun i => ws[i]?) = wc.map some) (hF : w1.length = is.length) (hE : q_upd ws is w1 = ws') (hfst : ws'.map Prod.fst = ws.map Prod.fst)
    (hr : va_Run p l e R s m args below meth c H locs cells slots 0 0 (F0 m pc ls st0) rest (q_Ri D r (va_A wc H.size) w1 av) (va_A wc H.size))
    (kk : ∀ (H : Heap) (locs : List Loc), q_H D A s ws' H locs → W p l e R s m args below meth c H locs cells slots Q (F0 m (pc + 3) ls (.int r :: rest))) : W p l e R s m args below meth c H locs cells slots Q (F0 m pc ls st0) := by
  have hFc := va_free (wc := wc) h.2.1 h.2.2 fx.2.2.2.2.2.2.2.2 is hC
  refine va_calli hr h.2.2 (fun q _ hq => hFc q hq) hFc (fun r1 u t H1 locs1 ht hvm hw hB hz1 hk1 hS1 => ?_)
  subst hw
  have hPD := q_back h hC hF hE hfst hk1 (by rw [← ht]; exact hB.1)
  exact kk H1 locs1 ⟨hPD.1, hPD.2, hS1⟩
end QC
