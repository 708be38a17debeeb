section QC
variable {p : Program} {l : Launch} {e : Env} {R : Room} {s : State} {m : MethodId} {args : Array Value} {below : List Frame} {meth : Method} {c : Code} {H : Heap} {locs : List Loc} {cells slots : Nat} {Q : State → Prop}
variable {cc bytes : ByteArray} {pc nL maxL n mc ms index : Nat} {ls : Array Slot} {rest As st0 : List Value} {D : va_G} {A : Nat → Prop} {a b tb : Nat} {cI cJ cZ cS : ClassId} {ws ws' wc w1 : va_W} {own C : String} {y : MethodName} {ret ret0 : Option FieldType} {rm : Room}
theorem q_retz {K : Type} (Wf : K → va_W) {k k' : K} {v r : Int32} (fx : q_Fx p s m args meth c cc nL own (some .boolean) D cI cJ cZ cS tb A) (hn : narrow .boolean (.int v) = .int v) (hf : (some (v, k) : Option (Int32 × K)) = some (r, k')) (h : q_H D A s (Wf k) H locs) (hdg : decode cc pc = .ok (.ireturn, 1)) : W p l e R s m args below meth c H locs 0 0 (MQ below (q_Ri D r A (Wf k')) args s 0 0 A) (F0 m pc ls [.int v]) := by
  cases hf
  obtain ⟨hx, hb, hml, hown, hts, hr, hlocks, hG, hA⟩ := fx
  exact W.zret hx hb hr hn (fun t ht hW => ⟨⟨v, (), rfl, rfl, by rw [ht]; exact h.1, h.2.1⟩, h.2.2.F ht⟩) h.2.2.2.2 hdg hlocks
theorem q_retl {K : Type} (Wf : K → va_W) {k k' : K} {v r : Int64} (fx : q_Fx p s m args meth c cc nL own (some .long) D cI cJ cZ cS tb A) (hf : (some (v, k) : Option (Int64 × K)) = some (r, k')) (h : q_H D A s (Wf k) H locs) (hdg : decode cc pc = .ok (.lreturn, 1)) : W p l e R s m args below meth c H locs 0 0 (MQ below (q_Rl D r A (Wf k')) args s 0 0 A) (F0 m pc ls [.long v]) := by
  cases hf
  obtain ⟨hx, hb, hml, hown, hts, hr, hlocks, hG, hA⟩ := fx
  exact W.lret hx hb hr (fun t ht hW => ⟨⟨v, (), rfl, rfl, by rw [ht]; exact h.1, h.2.1⟩, h.2.2.F ht⟩) h.2.2.2.2 hdg hlocks
theorem q_retv {K : Type} (Wf : K → va_W) {k k' : K} (fx : q_Fx p s m args meth c cc nL own none D cI cJ cZ cS tb A) (hf : (some k : Option K) = some k') (h : q_H D A s (Wf k) H locs) (hdg : decode cc pc = .ok (.return_, 1)) : W p l e R s m args below meth c H locs 0 0 (MQ below (q_Rv D A (Wf k')) args s 0 0 A) (F0 m pc ls []) := by
  cases hf
  obtain ⟨hx, hb, hml, hown, hts, hr, hlocks, hG, hA⟩ := fx
  exact W.vret hx hb hr (fun t ht hW => ⟨⟨(), rfl, trivial, by rw [ht]; exact h.1, h.2.1⟩, h.2.2.F ht⟩) h.2.2.2.2 hdg hlocks
/-- a method, from its entry -/
theorem q_enter {av : List Value} {sz : Nat} {W0 : va_W} {Qf : (Nat → Prop) → Array Value → State → Outcome → State → Prop} (hy : plainName y.cls = true) (hcls : y.cls = own) (hlen : (lg_sl av).length ≤ maxL)
    (body : ∀ (p : Program) (e : Env) (s : State) (m : MethodId) (below : List Frame) (meth : Method) (c : Code) (A : Nat → Prop) (ls : Array Slot), q_Fx p s m av.toArray meth c bytes maxL own ret D cI cJ cZ cS tb A → meth.name = y.name → q_H D A s W0 s.heap [] → lv_has ls maxL (lv_args 0 av) →
      W p l e rm s m av.toArray below meth c s.heap [] 0 0 (MQ below (Qf A) av.toArray s mc ms A) (F0 m 0 ls [])) :
    Met l y (Cond.code y bytes maxL ret :: wA) rm (q_Pre D cI cJ cZ cS tb av sz W0) (Qf (va_A W0 sz)) mc ms (va_A W0 sz) := by
  refine Met.ofW (cc := bytes) (maxL := maxL) (ret := ret) hy rfl ?_
  intro p e s m args below meth c s₁ B hml hv
  obtain ⟨rfl, hsz, hP, hG, hD0⟩ := hv
  have hts := atoms_spec (ws := Cond.code y bytes maxL ret :: wA) B.pre
  have hown : s.vm.findClass own = some m.cls := hcls ▸ findClass_of_methodNamed B.named
  subst hsz
  have hl := lv_entry av (n := maxL) hlen
  rw [lg_entry_eq]
  exact body p e s m below meth c (va_A W0 s.heap.size) _ ⟨B.exec, B.bytes, hml, hown, fun w hw => hts w (List.mem_cons_of_mem _ hw), B.returns, B.notSynchronized, hG, fun q h => Or.inr h⟩ (name_of_methodNamed B.named B.method).1 ⟨hP, hD0.self, va_S.rf⟩ hl
end QC
