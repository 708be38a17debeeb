section QC
variable {p : Program} {l : Launch} {e : Env} {R : Room} {s : State} {m : MethodId} {args : Array Value} {below : List Frame} {meth : Method} {c : Code} {H : Heap} {locs : List Loc} {cells slots : Nat} {Q : State → Prop}
variable {cc bytes : ByteArray} {pc nL maxL n mc ms index : Nat} {ls : Array Slot} {rest As st0 : List Value} {D : va_G} {A : Nat → Prop} {a b tb : Nat} {cI cJ cZ cS : ClassId} {ws ws' wc w1 : va_W} {own C : String} {y : MethodName} {ret ret0 : Option FieldType} {rm : Room}
theorem q_cl {r : Int64} {av : Array Value} (fx : q_Fx p s m args meth c cc nL own ret0 D cI cJ cZ cS tb A) (h : q_H D A s ws H locs) (is : List Nat) (hC : is.map (fun i => ws[i]?) = wc.map some) (hF : w1.length = is.length) (hE : q_upd ws is w1 = ws') (hfst : ws'.map Prod.fst = ws.map Prod.fst)
    (hr : va_Run p l e R s m args below meth c H locs cells slots 0 0 (F0 m pc ls st0) rest (q_Rl D r (va_A wc H.size) w1 av) (va_A wc H.size))
    (kk : ∀ (H : Heap) (locs : List Loc), q_H D A s ws' H locs → W p l e R s m args below meth c H locs cells slots Q (F0 m (pc + 3) ls (.long r :: rest))) : W p l e R s m args below meth c H locs cells slots Q (F0 m pc ls st0) := by
  have hFc := va_free (wc := wc) h.2.1 h.2.2 fx.2.2.2.2.2.2.2.2 is hC
  refine va_calll hr h.2.2 (fun q _ hq => hFc q hq) hFc (fun r1 u t H1 locs1 ht hvm hw hB hz1 hk1 hS1 => ?_)
  subst hw
  have hPD := q_back h hC hF hE hfst hk1 (by rw [← ht]; exact hB.1)
  exact kk H1 locs1 ⟨hPD.1, hPD.2, hS1⟩
theorem q_cv {av : Array Value} (fx : q_Fx p s m args meth c cc nL own ret0 D cI cJ cZ cS tb A) (h : q_H D A s ws H locs) (is : List Nat) (hC : is.map (fun i => ws[i]?) = wc.map some) (hF : w1.length = is.length) (hE : q_upd ws is w1 = ws') (hfst : ws'.map Prod.fst = ws.map Prod.fst)
    (hr : va_Run p l e R s m args below meth c H locs cells slots 0 0 (F0 m pc ls st0) rest (q_Rv D (va_A wc H.size) w1 av) (va_A wc H.size))
    (kk : ∀ (H : Heap) (locs : List Loc), q_H D A s ws' H locs → W p l e R s m args below meth c H locs cells slots Q (F0 m (pc + 3) ls rest)) : W p l e R s m args below meth c H locs cells slots Q (F0 m pc ls st0) := by
  have hFc := va_free (wc := wc) h.2.1 h.2.2 fx.2.2.2.2.2.2.2.2 is hC
  refine va_callv hr h.2.2 (fun q _ hq => hFc q hq) hFc (fun u t H1 locs1 ht hvm hw hB hz1 hk1 hS1 => ?_)
  have hPD := q_back h hC hF hE hfst hk1 (by rw [← ht]; exact hB.1)
  exact kk H1 locs1 ⟨hPD.1, hPD.2, hS1⟩
/-- returns -/
theorem q_reti {K : Type} (Wf : K → va_W) {k k' : K} {v r : Int32} (fx : q_Fx p s m args meth c cc nL own (some .int) D cI cJ cZ cS tb A) (hf : (some (v, k) : Option (Int32 × K)) = some (r, k')) (h : q_H D A s (Wf k) H locs) (hdg : decode cc pc = .ok (.ireturn, 1)) : W p l e R s m args below meth c H locs 0 0 (MQ below (q_Ri D r A (Wf k')) args s 0 0 A) (F0 m pc ls [.int v]) := by
  cases hf
  obtain ⟨hx, hb, hml, hown, hts, hr, hlocks, hG, hA⟩ := fx
  exact W.iret hx hb hr (fun t ht hW => ⟨⟨v, (), rfl, rfl, by rw [ht]; exact h.1, h.2.1⟩, h.2.2.F ht⟩) h.2.2.2.2 hdg hlocks
end QC
