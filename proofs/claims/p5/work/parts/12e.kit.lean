section QR
variable {p : Program} {l : Launch} {e : Env} {R : Room} {s : State} {m : MethodId} {args : Array Value} {below : List Frame} {meth : Method} {c : Code} {H : Heap} {locs : List Loc} {cells slots : Nat} {Q : State → Prop}
variable {cc bytes : ByteArray} {pc nL maxL n mc ms index : Nat} {ls : Array Slot} {rest As : List Value} {D : va_G} {A : Nat → Prop} {a b tb : Nat} {cI cJ cZ cS : ClassId} {ws ws' wc w1 : va_W} {own C : String} {y : MethodName} {ret ret0 : Option FieldType} {rm : Room}
theorem q_last (fx : q_Fx p s m args meth c cc nL own ret0 D cI cJ cZ cS tb A) (h : q_H D A s ws H locs) (q0 : Nat) {f : Nat → Int64} (ha : ws[q0]? = some (a, .inl (cJ, n, .inr (.inl f)))) {i : Int32} {x : Int64} (hin : vp_in i n) (hE : ws.set q0 (a, .inl (cJ, n, .inr (.inl (vp_updL f i.toNatClampNeg x)))) = ws') (hdg : decode cc pc = .ok (.lastore, 1))
    (kk : ∀ (H : Heap) (locs : List Loc), q_H D A s ws' H locs → W p l e R s m args below meth c H locs cells slots Q (F0 m (pc + 1) ls rest)) : W p l e R s m args below meth c H locs cells slots Q (F0 m pc ls (.long x :: .int i :: .ref a :: rest)) := by
  subst hE
  exact va_last fx.1 fx.2.1 fx.2.2.2.2.2.2.2.1.1 h.1 h.2.1 h.2.2 q0 1 ha rfl hin hdg (fun H1 locs1 h1 h2 h3 => kk H1 locs1 ⟨h1, h2, h3⟩)
theorem q_alenI (fx : q_Fx p s m args meth c cc nL own ret0 D cI cJ cZ cS tb A) (h : q_H D A s ws H locs) (q0 : Nat) {f : Nat → Int32} (ha : ws[q0]? = some (a, .inl (cI, n, .inl f))) (hdg : decode cc pc = .ok (.arraylength, 1))
    (kk : W p l e R s m args below meth c H locs cells slots Q (F0 m (pc + 1) ls (.int (Int32.ofNat n) :: rest))) : W p l e R s m args below meth c H locs cells slots Q (F0 m pc ls (.ref a :: rest)) :=
  va_alen fx.1 fx.2.1 fx.2.2.2.2.2.2.2.1.1 h.1 q0 0 ha rfl rfl hdg kk
theorem q_alenL (fx : q_Fx p s m args meth c cc nL own ret0 D cI cJ cZ cS tb A) (h : q_H D A s ws H locs) (q0 : Nat) {f : Nat → Int64} (ha : ws[q0]? = some (a, .inl (cJ, n, .inr (.inl f)))) (hdg : decode cc pc = .ok (.arraylength, 1))
    (kk : W p l e R s m args below meth c H locs cells slots Q (F0 m (pc + 1) ls (.int (Int32.ofNat n) :: rest))) : W p l e R s m args below meth c H locs cells slots Q (F0 m pc ls (.ref a :: rest)) :=
  va_alen fx.1 fx.2.1 fx.2.2.2.2.2.2.2.1.1 h.1 q0 1 ha rfl rfl hdg kk
/-- a sheet out of the row of sheets -/
theorem q_aald (fx : q_Fx p s m args meth c cc nL own ret0 D cI cJ cZ cS tb A) (h : q_H D A s ws H locs) (q0 : Nat) {s0 s1 s2 s3 : Nat} (ha : ws[q0]? = some (a, .inl (cS, 4, .inr (.inr (.inr (.inr (q_sh s0 s1 s2 s3))))))) {i k : Int32} (hi : i = k) {v : Nat} (hin : vp_in k 4) (hv : va_rf (q_sh s0 s1 s2 s3 k.toNatClampNeg) = .ref v) (hdg : decode cc pc = .ok (.aaload, 1))
    (kk : W p l e R s m args below meth c H locs cells slots Q (F0 m (pc + 1) ls (.ref v :: rest))) : W p l e R s m args below meth c H locs cells slots Q (F0 m pc ls (.int i :: .ref a :: rest)) := by
  subst hi
  refine va_aldq (C := "ComeIfShe$Sheet") fx.1 fx.2.1 fx.2.2.2.2.2.2.2.1.1 h.1 q0 3 ha rfl hin hdg ?_
  rw [hv]
  exact kk
theorem q_tabN (fx : q_Fx p s m args meth c cc nL own ret0 D cI cJ cZ cS tb A) (h : q_H D A s ws H locs) {host : String} (hlink : (own, index, "ComeIfShe", "LISTS_WITH", "[J", host) ∈ nF) (hdg : decode cc pc = .ok (.getstatic index, 3))
    (kk : W p l e R s m args below meth c H locs cells slots Q (F0 m (pc + 3) ls (.ref tb :: rest))) : W p l e R s m args below meth c H locs cells slots Q (F0 m pc ls rest) := by
  obtain ⟨hx, hb, -, hown, hts, -, -, hG, -⟩ := fx
  exact va_getsN hx hb hG.2.2.2.1 h.2.2 hown (va_Nw.use rfl (hG.2.1.1 _ hlink)) (fun _ h => h) hdg kk
theorem q_tabL (fx : q_Fx p s m args meth c cc nL own ret0 D cI cJ cZ cS tb A) (h : q_H D A s ws H locs) (hdg : decode cc pc = .ok (.arraylength, 1))
    (kk : W p l e R s m args below meth c H locs cells slots Q (F0 m (pc + 1) ls (.int 6 :: rest))) : W p l e R s m args below meth c H locs cells slots Q (F0 m pc ls (.ref tb :: rest)) :=
  va_tlen fx.1 fx.2.1 fx.2.2.2.2.2.2.2.1.2.2.2.2 h.2.2 rfl hdg kk
theorem q_tabA (fx : q_Fx p s m args meth c cc nL own ret0 D cI cJ cZ cS tb A) (h : q_H D A s ws H locs) {i : Int32} (hin : vp_in i 6) (hdg : decode cc pc = .ok (.laload, 1))
    (kk : W p l e R s m args below meth c H locs cells slots Q (F0 m (pc + 1) ls (.long (q_tb i.toNatClampNeg) :: rest))) : W p l e R s m args below meth c H locs cells slots Q (F0 m pc ls (.int i :: .ref tb :: rest)) :=
  va_tl fx.1 fx.2.1 fx.2.2.2.2.2.2.2.1.2.2.2.2 h.2.2 hin rfl hdg kk
theorem q_ldc (fx : q_Fx p s m args meth c cc nL own ret0 D cI cJ cZ cS tb A) {v : Int32} (hk : Cond.constant own index v ∈ wA) (hdg : decode cc pc = .ok (.ldc index, 2)) (kk : W p l e R s m args below meth c H locs cells slots Q (F0 m (pc + 2) ls (.int v :: rest))) : W p l e R s m args below meth c H locs cells slots Q (F0 m pc ls rest) :=
  lv_ldc fx.1 fx.2.1 fx.2.2.2.1 (fx.2.2.2.2.1 _ hk) hdg kk
theorem q_ldcw (fx : q_Fx p s m args meth c cc nL own ret0 D cI cJ cZ cS tb A) {v : Int32} (hk : Cond.constant own index v ∈ wA) (hdg : decode cc pc = .ok (.ldc_w index, 3)) (kk : W p l e R s m args below meth c H locs cells slots Q (F0 m (pc + 3) ls (.int v :: rest))) : W p l e R s m args below meth c H locs cells slots Q (F0 m pc ls rest) :=
  lv_ldcw fx.1 fx.2.1 fx.2.2.2.1 (fx.2.2.2.2.1 _ hk) hdg kk
theorem q_ldc2 (fx : q_Fx p s m args meth c cc nL own ret0 D cI cJ cZ cS tb A) {v : Int64} (hk : Cond.constantLong own index v ∈ wA) (hdg : decode cc pc = .ok (.ldc2_w index, 3)) (kk : W p l e R s m args below meth c H locs cells slots Q (F0 m (pc + 3) ls (.long v :: rest))) : W p l e R s m args below meth c H locs cells slots Q (F0 m pc ls rest) :=
  lv_ldc2 fx.1 fx.2.1 fx.2.2.2.1 (fx.2.2.2.2.1 _ hk) hdg kk
end QR
