/-! decode by one walk over the bytes -/
theorem dk_of {c : ByteArray} {p n : Nat} {i : Instr} (h : (Jvm.ClassFile.Decoder.instr p) c p = .ok (i, p + n)) : decode c p = .ok (i, n) := by
  have e : (Jvm.ClassFile.Reader.runAt (Jvm.ClassFile.Decoder.instr p) c p) = .ok (i, p + n) := h
  unfold decode
  rw [e]
  show Except.ok (i, p + n - p) = _
  rw [Nat.add_sub_cancel_left]
theorem dk_lt {c : ByteArray} {p : Nat} {b : UInt8} {s : List UInt8} (h : c.data.toList.drop p = b :: s) : p < c.size := by
  have h1 : (c.data.toList.drop p).length = (b :: s).length := by rw [h]
  rw [List.length_drop, List.length_cons] at h1
  have h2 : c.data.toList.length = c.size := rfl
  omega
theorem dk_tl {c : ByteArray} {p : Nat} {b : UInt8} {s : List UInt8} (h : c.data.toList.drop p = b :: s) : c.data.toList.drop (p + 1) = s := by
  rw [← List.drop_drop, h]
  rfl
theorem dk_b {c : ByteArray} {p : Nat} {b : UInt8} {s : List UInt8} (h : c.data.toList.drop p = b :: s) : (Jvm.ClassFile.Reader.u1 : Jvm.ClassFile.Decoder Nat) c p = .ok (b.toNat, p + 1) := by
  have hl := dk_lt h
  have hg : c.data.toList[p]? = some b := by
    have h1 : (c.data.toList.drop p)[0]? = some b := by rw [h]; rfl
    rwa [List.getElem?_drop, Nat.add_zero] at h1
  have hb : c[p]'hl = b := by
    have h2 : c.data.toList[p]'hl = b := by
      rw [List.getElem?_eq_getElem hl] at hg
      exact Option.some.inj hg
    exact h2
  show (if h : p < c.size then _ else _ : Jvm.ClassFile.Decoder Nat) c p = _
  rw [dif_pos hl]
  show Except.ok ((c[p]'hl).toNat, p + 1) = _
  rw [hb]
theorem dk_u1 {c : ByteArray} {p : Nat} {b : UInt8} {s : List UInt8} (h : c.data.toList.drop p = b :: s) {α : Type} (f : Nat → Jvm.ClassFile.Decoder α) : (Jvm.ClassFile.Reader.u1 >>= f : Jvm.ClassFile.Decoder α) c p = f b.toNat c (p + 1) := by
  show (((Jvm.ClassFile.Reader.u1 : Jvm.ClassFile.Decoder Nat) c p) >>= fun q => f q.1 c q.2) = _
  rw [dk_b h]
  rfl
theorem dk_s1 {c : ByteArray} {p : Nat} {b : UInt8} {s : List UInt8} (h : c.data.toList.drop p = b :: s) {α : Type} (f : Int → Jvm.ClassFile.Decoder α) : (Jvm.ClassFile.Reader.s1 >>= f : Jvm.ClassFile.Decoder α) c p = f (Jvm.ClassFile.Reader.signed 8 b.toNat) c (p + 1) := by
  have e : (Jvm.ClassFile.Reader.s1 : Jvm.ClassFile.Decoder Int) c p = .ok (Jvm.ClassFile.Reader.signed 8 b.toNat, p + 1) := by
    show (((Jvm.ClassFile.Reader.u1 : Jvm.ClassFile.Decoder Nat) c p) >>= fun q => Except.ok (Jvm.ClassFile.Reader.signed 8 q.1, q.2)) = _
    rw [dk_b h]
    rfl
  show (((Jvm.ClassFile.Reader.s1 : Jvm.ClassFile.Decoder Int) c p) >>= fun q => f q.1 c q.2) = _
  rw [e]
  rfl
theorem dk_h {c : ByteArray} {p : Nat} {a b : UInt8} {s : List UInt8} (h : c.data.toList.drop p = a :: b :: s) : (Jvm.ClassFile.Reader.u2 : Jvm.ClassFile.Decoder Nat) c p = .ok (a.toNat * 256 + b.toNat, p + 2) := by
  show (Jvm.ClassFile.Reader.u1 >>= fun hi => Jvm.ClassFile.Reader.u1 >>= fun lo => pure (hi * 256 + lo) : Jvm.ClassFile.Decoder Nat) c p = _
  rw [dk_u1 h, dk_u1 (dk_tl h)]
  rfl
theorem dk_u2 {c : ByteArray} {p : Nat} {a b : UInt8} {s : List UInt8} (h : c.data.toList.drop p = a :: b :: s) {α : Type} (f : Nat → Jvm.ClassFile.Decoder α) : (Jvm.ClassFile.Reader.u2 >>= f : Jvm.ClassFile.Decoder α) c p = f (a.toNat * 256 + b.toNat) c (p + 2) := by
  show (((Jvm.ClassFile.Reader.u2 : Jvm.ClassFile.Decoder Nat) c p) >>= fun q => f q.1 c q.2) = _
  rw [dk_h h]
  rfl
theorem dk_s2 {c : ByteArray} {p : Nat} {a b : UInt8} {s : List UInt8} (h : c.data.toList.drop p = a :: b :: s) {α : Type} (f : Int → Jvm.ClassFile.Decoder α) : (Jvm.ClassFile.Reader.s2 >>= f : Jvm.ClassFile.Decoder α) c p = f (Jvm.ClassFile.Reader.signed 16 (a.toNat * 256 + b.toNat)) c (p + 2) := by
  have e : (Jvm.ClassFile.Reader.s2 : Jvm.ClassFile.Decoder Int) c p = .ok (Jvm.ClassFile.Reader.signed 16 (a.toNat * 256 + b.toNat), p + 2) := by
    show (((Jvm.ClassFile.Reader.u2 : Jvm.ClassFile.Decoder Nat) c p) >>= fun q => Except.ok (Jvm.ClassFile.Reader.signed 16 q.1, q.2)) = _
    rw [dk_h h]
    rfl
  show (((Jvm.ClassFile.Reader.s2 : Jvm.ClassFile.Decoder Int) c p) >>= fun q => f q.1 c q.2) = _
  rw [e]
  rfl
/-- what a table's row says -/
def dq_ok (q : Nat × (List UInt8 → Option (Instr × Nat))) : Prop := ∀ (c : ByteArray) (p : Nat) (b : UInt8) (s : List UInt8) (r : Instr × Nat), b.toNat = q.1 → c.data.toList.drop p = b :: s → q.2 s = some r → decode c p = .ok r
def dq_z (i : Instr) : List UInt8 → Option (Instr × Nat) := fun _ => some (i, 1)
def dq_1 (g : Nat → Instr) : List UInt8 → Option (Instr × Nat) := fun s => match s with
  | x :: _ => some (g x.toNat, 2)
  | [] => none
def dq_2 (g : Nat → Instr) : List UInt8 → Option (Instr × Nat) := fun s => match s with
  | x :: y :: _ => some (g (x.toNat * 256 + y.toNat), 3)
  | _ => none
def dq_i : List UInt8 → Option (Instr × Nat) := fun s => match s with
  | x :: y :: _ => some (.iinc x.toNat (Jvm.ClassFile.Reader.signed 8 y.toNat), 3)
  | _ => none
def dq_a (k : Nat) (i : Instr) : List UInt8 → Option (Instr × Nat) := fun s => match s with
  | x :: _ => cond (Nat.beq x.toNat k) (some (i, 2)) none
  | [] => none
theorem dq_z_ok (b0 : UInt8) {v : Nat} {i : Instr} (hv : b0.toNat = v) (X : ∀ (c : ByteArray) (p : Nat) (s : List UInt8), c.data.toList.drop p = b0 :: s → (Jvm.ClassFile.Decoder.instr p) c p = .ok (i, p + 1)) : dq_ok (v, dq_z i) := by
  intro c p b s r hb hs hr
  have e : b = b0 := UInt8.toNat_inj.mp (hb.trans hv.symm)
  subst e
  cases hr
  exact dk_of (X c p s hs)
theorem dq_1_ok (b0 : UInt8) {v : Nat} {g : Nat → Instr} (hv : b0.toNat = v) (X : ∀ (c : ByteArray) (p : Nat) (x : UInt8) (s : List UInt8), c.data.toList.drop p = b0 :: x :: s → (Jvm.ClassFile.Decoder.instr p) c p = .ok (g x.toNat, p + 2)) : dq_ok (v, dq_1 g) := by
  intro c p b s r hb hs hr
  have e : b = b0 := UInt8.toNat_inj.mp (hb.trans hv.symm)
  subst e
  match s, hs, hr with
  | x :: s, hs, hr =>
    cases hr
    exact dk_of (X c p x s hs)
theorem dq_2_ok (b0 : UInt8) {v : Nat} {g : Nat → Instr} (hv : b0.toNat = v) (X : ∀ (c : ByteArray) (p : Nat) (x y : UInt8) (s : List UInt8), c.data.toList.drop p = b0 :: x :: y :: s → (Jvm.ClassFile.Decoder.instr p) c p = .ok (g (x.toNat * 256 + y.toNat), p + 3)) : dq_ok (v, dq_2 g) := by
  intro c p b s r hb hs hr
  have e : b = b0 := UInt8.toNat_inj.mp (hb.trans hv.symm)
  subst e
  match s, hs, hr with
  | x :: y :: s, hs, hr =>
    cases hr
    exact dk_of (X c p x y s hs)
theorem dq_i_ok : dq_ok (132, dq_i) := by
  intro c p b s r hb hs hr
  have e : b = 132 := UInt8.toNat_inj.mp hb
  subst e
  match s, hs, hr with
  | x :: y :: s, hs, hr =>
    cases hr
    exact dk_of (n := 3) ((dk_u1 hs _).trans ((dk_u1 (dk_tl hs) (fun a => Jvm.ClassFile.Reader.s1 >>= fun d => pure (Instr.iinc a d))).trans ((dk_s1 (dk_tl (dk_tl hs)) (fun d => pure (Instr.iinc x.toNat d))).trans rfl)))
def dlk : List (Nat × (List UInt8 → Option (Instr × Nat))) → Nat → List UInt8 → Option (Instr × Nat)
  | [], _, _ => none
  | q :: t, v, s => cond (Nat.beq q.1 v) (q.2 s) (dlk t v s)
theorem dlk_ok : ∀ (t : List (Nat × (List UInt8 → Option (Instr × Nat)))), (∀ q ∈ t, dq_ok q) → ∀ (c : ByteArray) (p : Nat) (b : UInt8) (s : List UInt8) (r : Instr × Nat), c.data.toList.drop p = b :: s → dlk t b.toNat s = some r → decode c p = .ok r
  | [], _, _, _, _, _, _, _, h => by cases h
  | q :: t, ht, c, p, b, s, r, hs, h => by
    unfold dlk at h
    cases e : Nat.beq q.1 b.toNat with
    | true =>
      rw [e] at h
      exact ht q List.mem_cons_self c p b s r (Nat.eq_of_beq_eq_true e).symm hs h
    | false =>
      rw [e] at h
      exact dlk_ok t (fun x hx => ht x (List.mem_cons_of_mem _ hx)) c p b s r hs h
theorem de_0 : dq_ok (42, dq_z (.aload_n 0)) := dq_z_ok 42 rfl (fun c p s h => (dk_u1 h _).trans rfl)
theorem de_1 : dq_ok (182, dq_2 (fun a => .invokevirtual a)) := dq_2_ok 182 rfl (fun c p x y s h => (dk_u1 h _).trans ((dk_u2 (dk_tl h) (fun a => pure (Instr.invokevirtual a))).trans rfl))
theorem de_2 : dq_ok (180, dq_2 (fun a => .getfield a)) := dq_2_ok 180 rfl (fun c p x y s h => (dk_u1 h _).trans ((dk_u2 (dk_tl h) (fun a => pure (Instr.getfield a))).trans rfl))
theorem de_3 : dq_ok (27, dq_z (.iload_n 1)) := dq_z_ok 27 rfl (fun c p s h => (dk_u1 h _).trans rfl)
theorem de_4 : dq_ok (167, dq_2 (fun a => .goto (Jvm.ClassFile.Reader.signed 16 a))) := dq_2_ok 167 rfl (fun c p x y s h => (dk_u1 h _).trans ((dk_s2 (dk_tl h) (fun a => pure (Instr.goto a))).trans rfl))
theorem de_5 : dq_ok (172, dq_z (.ireturn)) := dq_z_ok 172 rfl (fun c p s h => (dk_u1 h _).trans rfl)
theorem de_6 : dq_ok (29, dq_z (.iload_n 3)) := dq_z_ok 29 rfl (fun c p s h => (dk_u1 h _).trans rfl)
theorem de_7 : dq_ok (4, dq_z (.iconst 1)) := dq_z_ok 4 rfl (fun c p s h => (dk_u1 h _).trans rfl)
theorem de_8 : dq_ok (21, dq_1 (fun a => .iload a)) := dq_1_ok 21 rfl (fun c p x s h => (dk_u1 h _).trans ((dk_u1 (dk_tl h) (fun a => pure (Instr.iload a))).trans rfl))
theorem de_9 : dq_ok (28, dq_z (.iload_n 2)) := dq_z_ok 28 rfl (fun c p s h => (dk_u1 h _).trans rfl)
theorem de_10 : dq_ok (3, dq_z (.iconst 0)) := dq_z_ok 3 rfl (fun c p s h => (dk_u1 h _).trans rfl)
theorem de_11 : dq_ok (46, dq_z (.iaload)) := dq_z_ok 46 rfl (fun c p s h => (dk_u1 h _).trans rfl)
theorem de_12 : dq_ok (96, dq_z (.iadd)) := dq_z_ok 96 rfl (fun c p s h => (dk_u1 h _).trans rfl)
theorem de_13 : dq_ok (16, dq_1 (fun a => .bipush (Jvm.ClassFile.Reader.signed 8 a))) := dq_1_ok 16 rfl (fun c p x s h => (dk_u1 h _).trans ((dk_s1 (dk_tl h) (fun a => pure (Instr.bipush a))).trans rfl))
theorem de_14 : dq_ok (153, dq_2 (fun a => .ifCond .eq (Jvm.ClassFile.Reader.signed 16 a))) := dq_2_ok 153 rfl (fun c p x y s h => (dk_u1 h _).trans ((dk_s2 (dk_tl h) (fun a => pure (Instr.ifCond .eq a))).trans rfl))
theorem de_15 : dq_ok (162, dq_2 (fun a => .if_icmp .ge (Jvm.ClassFile.Reader.signed 16 a))) := dq_2_ok 162 rfl (fun c p x y s h => (dk_u1 h _).trans ((dk_s2 (dk_tl h) (fun a => pure (Instr.if_icmp .ge a))).trans rfl))
theorem de_16 : dq_ok (184, dq_2 (fun a => .invokestatic a)) := dq_2_ok 184 rfl (fun c p x y s h => (dk_u1 h _).trans ((dk_u2 (dk_tl h) (fun a => pure (Instr.invokestatic a))).trans rfl))
theorem de_17 : dq_ok (54, dq_1 (fun a => .istore a)) := dq_1_ok 54 rfl (fun c p x s h => (dk_u1 h _).trans ((dk_u1 (dk_tl h) (fun a => pure (Instr.istore a))).trans rfl))
theorem de_18 : dq_ok (18, dq_1 (fun a => .ldc a)) := dq_1_ok 18 rfl (fun c p x s h => (dk_u1 h _).trans ((dk_u1 (dk_tl h) (fun a => pure (Instr.ldc a))).trans rfl))
theorem de_19 : dq_ok (132, dq_i) := dq_i_ok
theorem de_20 : dq_ok (62, dq_z (.istore_n 3)) := dq_z_ok 62 rfl (fun c p s h => (dk_u1 h _).trans rfl)
theorem de_21 : dq_ok (61, dq_z (.istore_n 2)) := dq_z_ok 61 rfl (fun c p s h => (dk_u1 h _).trans rfl)
theorem de_22 : dq_ok (87, dq_z (.pop)) := dq_z_ok 87 rfl (fun c p s h => (dk_u1 h _).trans rfl)
theorem de_23 : dq_ok (181, dq_2 (fun a => .putfield a)) := dq_2_ok 181 rfl (fun c p x y s h => (dk_u1 h _).trans ((dk_u2 (dk_tl h) (fun a => pure (Instr.putfield a))).trans rfl))
theorem de_24 : dq_ok (154, dq_2 (fun a => .ifCond .ne (Jvm.ClassFile.Reader.signed 16 a))) := dq_2_ok 154 rfl (fun c p x y s h => (dk_u1 h _).trans ((dk_s2 (dk_tl h) (fun a => pure (Instr.ifCond .ne a))).trans rfl))
theorem de_25 : dq_ok (160, dq_2 (fun a => .if_icmp .ne (Jvm.ClassFile.Reader.signed 16 a))) := dq_2_ok 160 rfl (fun c p x y s h => (dk_u1 h _).trans ((dk_s2 (dk_tl h) (fun a => pure (Instr.if_icmp .ne a))).trans rfl))
theorem de_26 : dq_ok (43, dq_z (.aload_n 1)) := dq_z_ok 43 rfl (fun c p s h => (dk_u1 h _).trans rfl)
theorem de_27 : dq_ok (133, dq_z (.i2l)) := dq_z_ok 133 rfl (fun c p s h => (dk_u1 h _).trans rfl)
theorem de_28 : dq_ok (2, dq_z (.iconst (-1))) := dq_z_ok 2 rfl (fun c p s h => (dk_u1 h _).trans rfl)
theorem de_29 : dq_ok (17, dq_2 (fun a => .sipush (Jvm.ClassFile.Reader.signed 16 a))) := dq_2_ok 17 rfl (fun c p x y s h => (dk_u1 h _).trans ((dk_s2 (dk_tl h) (fun a => pure (Instr.sipush a))).trans rfl))
theorem de_30 : dq_ok (5, dq_z (.iconst 2)) := dq_z_ok 5 rfl (fun c p s h => (dk_u1 h _).trans rfl)
theorem de_31 : dq_ok (79, dq_z (.iastore)) := dq_z_ok 79 rfl (fun c p s h => (dk_u1 h _).trans rfl)
theorem de_32 : dq_ok (44, dq_z (.aload_n 2)) := dq_z_ok 44 rfl (fun c p s h => (dk_u1 h _).trans rfl)
theorem de_33 : dq_ok (126, dq_z (.iand)) := dq_z_ok 126 rfl (fun c p s h => (dk_u1 h _).trans rfl)
theorem de_34 : dq_ok (100, dq_z (.isub)) := dq_z_ok 100 rfl (fun c p s h => (dk_u1 h _).trans rfl)
theorem de_35 : dq_ok (60, dq_z (.istore_n 1)) := dq_z_ok 60 rfl (fun c p s h => (dk_u1 h _).trans rfl)
theorem de_36 : dq_ok (20, dq_2 (fun a => .ldc2_w a)) := dq_2_ok 20 rfl (fun c p x y s h => (dk_u1 h _).trans ((dk_u2 (dk_tl h) (fun a => pure (Instr.ldc2_w a))).trans rfl))
theorem de_37 : dq_ok (26, dq_z (.iload_n 0)) := dq_z_ok 26 rfl (fun c p s h => (dk_u1 h _).trans rfl)
theorem de_38 : dq_ok (9, dq_z (.lconst 0)) := dq_z_ok 9 rfl (fun c p s h => (dk_u1 h _).trans rfl)
theorem de_39 : dq_ok (155, dq_2 (fun a => .ifCond .lt (Jvm.ClassFile.Reader.signed 16 a))) := dq_2_ok 155 rfl (fun c p x y s h => (dk_u1 h _).trans ((dk_s2 (dk_tl h) (fun a => pure (Instr.ifCond .lt a))).trans rfl))
theorem de_40 : dq_ok (173, dq_z (.lreturn)) := dq_z_ok 173 rfl (fun c p s h => (dk_u1 h _).trans rfl)
theorem de_41 : dq_ok (89, dq_z (.dup)) := dq_z_ok 89 rfl (fun c p s h => (dk_u1 h _).trans rfl)
theorem de_42 : dq_ok (159, dq_2 (fun a => .if_icmp .eq (Jvm.ClassFile.Reader.signed 16 a))) := dq_2_ok 159 rfl (fun c p x y s h => (dk_u1 h _).trans ((dk_s2 (dk_tl h) (fun a => pure (Instr.if_icmp .eq a))).trans rfl))
theorem de_43 : dq_ok (156, dq_2 (fun a => .ifCond .ge (Jvm.ClassFile.Reader.signed 16 a))) := dq_2_ok 156 rfl (fun c p x y s h => (dk_u1 h _).trans ((dk_s2 (dk_tl h) (fun a => pure (Instr.ifCond .ge a))).trans rfl))
theorem de_44 : dq_ok (104, dq_z (.imul)) := dq_z_ok 104 rfl (fun c p s h => (dk_u1 h _).trans rfl)
theorem de_45 : dq_ok (120, dq_z (.ishl)) := dq_z_ok 120 rfl (fun c p s h => (dk_u1 h _).trans rfl)
theorem de_46 : dq_ok (7, dq_z (.iconst 4)) := dq_z_ok 7 rfl (fun c p s h => (dk_u1 h _).trans rfl)
theorem de_47 : dq_ok (177, dq_z (.return_)) := dq_z_ok 177 rfl (fun c p s h => (dk_u1 h _).trans rfl)
theorem de_48 : dq_ok (164, dq_2 (fun a => .if_icmp .le (Jvm.ClassFile.Reader.signed 16 a))) := dq_2_ok 164 rfl (fun c p x y s h => (dk_u1 h _).trans ((dk_s2 (dk_tl h) (fun a => pure (Instr.if_icmp .le a))).trans rfl))
theorem de_49 : dq_ok (128, dq_z (.ior)) := dq_z_ok 128 rfl (fun c p s h => (dk_u1 h _).trans rfl)
theorem de_50 : dq_ok (50, dq_z (.aaload)) := dq_z_ok 50 rfl (fun c p s h => (dk_u1 h _).trans rfl)
theorem de_51 : dq_ok (6, dq_z (.iconst 3)) := dq_z_ok 6 rfl (fun c p s h => (dk_u1 h _).trans rfl)
theorem de_52 : dq_ok (163, dq_2 (fun a => .if_icmp .gt (Jvm.ClassFile.Reader.signed 16 a))) := dq_2_ok 163 rfl (fun c p x y s h => (dk_u1 h _).trans ((dk_s2 (dk_tl h) (fun a => pure (Instr.if_icmp .gt a))).trans rfl))
theorem de_53 : dq_ok (161, dq_2 (fun a => .if_icmp .lt (Jvm.ClassFile.Reader.signed 16 a))) := dq_2_ok 161 rfl (fun c p x y s h => (dk_u1 h _).trans ((dk_s2 (dk_tl h) (fun a => pure (Instr.if_icmp .lt a))).trans rfl))
theorem de_54 : dq_ok (183, dq_2 (fun a => .invokespecial a)) := dq_2_ok 183 rfl (fun c p x y s h => (dk_u1 h _).trans ((dk_u2 (dk_tl h) (fun a => pure (Instr.invokespecial a))).trans rfl))
theorem de_55 : dq_ok (47, dq_z (.laload)) := dq_z_ok 47 rfl (fun c p s h => (dk_u1 h _).trans rfl)
theorem de_56 : dq_ok (130, dq_z (.ixor)) := dq_z_ok 130 rfl (fun c p s h => (dk_u1 h _).trans rfl)
theorem de_57 : dq_ok (33, dq_z (.lload_n 3)) := dq_z_ok 33 rfl (fun c p s h => (dk_u1 h _).trans rfl)
theorem de_58 : dq_ok (148, dq_z (.lcmp)) := dq_z_ok 148 rfl (fun c p s h => (dk_u1 h _).trans rfl)
theorem de_59 : dq_ok (32, dq_z (.lload_n 2)) := dq_z_ok 32 rfl (fun c p s h => (dk_u1 h _).trans rfl)
theorem de_60 : dq_ok (80, dq_z (.lastore)) := dq_z_ok 80 rfl (fun c p s h => (dk_u1 h _).trans rfl)
theorem de_61 : dq_ok (10, dq_z (.lconst 1)) := dq_z_ok 10 rfl (fun c p s h => (dk_u1 h _).trans rfl)
theorem de_62 : dq_ok (127, dq_z (.land)) := dq_z_ok 127 rfl (fun c p s h => (dk_u1 h _).trans rfl)
theorem de_63 : dq_ok (66, dq_z (.lstore_n 3)) := dq_z_ok 66 rfl (fun c p s h => (dk_u1 h _).trans rfl)
theorem de_64 : dq_ok (187, dq_2 (fun a => .new a)) := dq_2_ok 187 rfl (fun c p x y s h => (dk_u1 h _).trans ((dk_u2 (dk_tl h) (fun a => pure (Instr.new a))).trans rfl))
theorem de_65 : dq_ok (122, dq_z (.ishr)) := dq_z_ok 122 rfl (fun c p s h => (dk_u1 h _).trans rfl)
theorem de_66 : dq_ok (124, dq_z (.iushr)) := dq_z_ok 124 rfl (fun c p s h => (dk_u1 h _).trans rfl)
theorem de_67 : dq_ok (31, dq_z (.lload_n 1)) := dq_z_ok 31 rfl (fun c p s h => (dk_u1 h _).trans rfl)
theorem de_68 : dq_ok (136, dq_z (.l2i)) := dq_z_ok 136 rfl (fun c p s h => (dk_u1 h _).trans rfl)
theorem de_69 : dq_ok (22, dq_1 (fun a => .lload a)) := dq_1_ok 22 rfl (fun c p x s h => (dk_u1 h _).trans ((dk_u1 (dk_tl h) (fun a => pure (Instr.lload a))).trans rfl))
theorem de_70 : dq_ok (88, dq_z (.pop2)) := dq_z_ok 88 rfl (fun c p s h => (dk_u1 h _).trans rfl)
theorem de_71 : dq_ok (51, dq_z (.baload)) := dq_z_ok 51 rfl (fun c p s h => (dk_u1 h _).trans rfl)
theorem de_72 : dq_ok (59, dq_z (.istore_n 0)) := dq_z_ok 59 rfl (fun c p s h => (dk_u1 h _).trans rfl)
theorem de_73 : dq_ok (190, dq_z (.arraylength)) := dq_z_ok 190 rfl (fun c p s h => (dk_u1 h _).trans rfl)
theorem de_74 : dq_ok (65, dq_z (.lstore_n 2)) := dq_z_ok 65 rfl (fun c p s h => (dk_u1 h _).trans rfl)
theorem de_75 : dq_ok (8, dq_z (.iconst 5)) := dq_z_ok 8 rfl (fun c p s h => (dk_u1 h _).trans rfl)
theorem de_76 : dq_ok (84, dq_z (.bastore)) := dq_z_ok 84 rfl (fun c p s h => (dk_u1 h _).trans rfl)
theorem de_77 : dq_ok (19, dq_2 (fun a => .ldc_w a)) := dq_2_ok 19 rfl (fun c p x y s h => (dk_u1 h _).trans ((dk_u2 (dk_tl h) (fun a => pure (Instr.ldc_w a))).trans rfl))
theorem de_78 : dq_ok (55, dq_1 (fun a => .lstore a)) := dq_1_ok 55 rfl (fun c p x s h => (dk_u1 h _).trans ((dk_u1 (dk_tl h) (fun a => pure (Instr.lstore a))).trans rfl))
theorem de_79 : dq_ok (129, dq_z (.lor)) := dq_z_ok 129 rfl (fun c p s h => (dk_u1 h _).trans rfl)
theorem de_80 : dq_ok (158, dq_2 (fun a => .ifCond .le (Jvm.ClassFile.Reader.signed 16 a))) := dq_2_ok 158 rfl (fun c p x y s h => (dk_u1 h _).trans ((dk_s2 (dk_tl h) (fun a => pure (Instr.ifCond .le a))).trans rfl))
theorem de_81 : dq_ok (108, dq_z (.idiv)) := dq_z_ok 108 rfl (fun c p s h => (dk_u1 h _).trans rfl)
theorem de_82 : dq_ok (112, dq_z (.irem)) := dq_z_ok 112 rfl (fun c p s h => (dk_u1 h _).trans rfl)
theorem de_83 : dq_ok (178, dq_2 (fun a => .getstatic a)) := dq_2_ok 178 rfl (fun c p x y s h => (dk_u1 h _).trans ((dk_u2 (dk_tl h) (fun a => pure (Instr.getstatic a))).trans rfl))
theorem de_84 : dq_ok (121, dq_z (.lshl)) := dq_z_ok 121 rfl (fun c p s h => (dk_u1 h _).trans rfl)
theorem de_85 : dq_ok (92, dq_z (.dup2)) := dq_z_ok 92 rfl (fun c p s h => (dk_u1 h _).trans rfl)
theorem de_86 : dq_ok (145, dq_z (.i2b)) := dq_z_ok 145 rfl (fun c p s h => (dk_u1 h _).trans rfl)
theorem de_87 : dq_ok (147, dq_z (.i2s)) := dq_z_ok 147 rfl (fun c p s h => (dk_u1 h _).trans rfl)
theorem de_88 : dq_ok (131, dq_z (.lxor)) := dq_z_ok 131 rfl (fun c p s h => (dk_u1 h _).trans rfl)
theorem de_89 : dq_ok (113, dq_z (.lrem)) := dq_z_ok 113 rfl (fun c p s h => (dk_u1 h _).trans rfl)
theorem de_90 : dq_ok (109, dq_z (.ldiv)) := dq_z_ok 109 rfl (fun c p s h => (dk_u1 h _).trans rfl)
theorem de_91 : dq_ok (30, dq_z (.lload_n 0)) := dq_z_ok 30 rfl (fun c p s h => (dk_u1 h _).trans rfl)
theorem de_92 : dq_ok (125, dq_z (.lushr)) := dq_z_ok 125 rfl (fun c p s h => (dk_u1 h _).trans rfl)
theorem de_93 : dq_ok (189, dq_2 (fun a => .anewarray a)) := dq_2_ok 189 rfl (fun c p x y s h => (dk_u1 h _).trans ((dk_u2 (dk_tl h) (fun a => pure (Instr.anewarray a))).trans rfl))
theorem de_94 : dq_ok (83, dq_z (.aastore)) := dq_z_ok 83 rfl (fun c p s h => (dk_u1 h _).trans rfl)
theorem de_95 : dq_ok (97, dq_z (.ladd)) := dq_z_ok 97 rfl (fun c p s h => (dk_u1 h _).trans rfl)
theorem de_96 : dq_ok (157, dq_2 (fun a => .ifCond .gt (Jvm.ClassFile.Reader.signed 16 a))) := dq_2_ok 157 rfl (fun c p x y s h => (dk_u1 h _).trans ((dk_s2 (dk_tl h) (fun a => pure (Instr.ifCond .gt a))).trans rfl))
theorem de_97 : dq_ok (76, dq_z (.astore_n 1)) := dq_z_ok 76 rfl (fun c p s h => (dk_u1 h _).trans rfl)
theorem de_98 : dq_ok (77, dq_z (.astore_n 2)) := dq_z_ok 77 rfl (fun c p s h => (dk_u1 h _).trans rfl)
def dtab : List (Nat × (List UInt8 → Option (Instr × Nat))) := [(42, dq_z (.aload_n 0)), (182, dq_2 (fun a => .invokevirtual a)), (180, dq_2 (fun a => .getfield a)), (27, dq_z (.iload_n 1)), (167, dq_2 (fun a => .goto (Jvm.ClassFile.Reader.signed 16 a))), (172, dq_z (.ireturn)), (29, dq_z (.iload_n 3)), (4, dq_z (.iconst 1)), (21, dq_1 (fun a => .iload a)), (28, dq_z (.iload_n 2)), (3, dq_z (.iconst 0)), (46, dq_z (.iaload)), (96, dq_z (.iadd)), (16, dq_1 (fun a => .bipush (Jvm.ClassFile.Reader.signed 8 a))), (153, dq_2 (fun a => .ifCond .eq (Jvm.ClassFile.Reader.signed 16 a))), (162, dq_2 (fun a => .if_icmp .ge (Jvm.ClassFile.Reader.signed 16 a))), (184, dq_2 (fun a => .invokestatic a)), (54, dq_1 (fun a => .istore a)), (18, dq_1 (fun a => .ldc a)), (132, dq_i), (62, dq_z (.istore_n 3)), (61, dq_z (.istore_n 2)), (87, dq_z (.pop)), (181, dq_2 (fun a => .putfield a)), (154, dq_2 (fun a => .ifCond .ne (Jvm.ClassFile.Reader.signed 16 a))), (160, dq_2 (fun a => .if_icmp .ne (Jvm.ClassFile.Reader.signed 16 a))), (43, dq_z (.aload_n 1)), (133, dq_z (.i2l)), (2, dq_z (.iconst (-1))), (17, dq_2 (fun a => .sipush (Jvm.ClassFile.Reader.signed 16 a))), (5, dq_z (.iconst 2)), (79, dq_z (.iastore)), (44, dq_z (.aload_n 2)), (126, dq_z (.iand)), (100, dq_z (.isub)), (60, dq_z (.istore_n 1)), (20, dq_2 (fun a => .ldc2_w a)), (26, dq_z (.iload_n 0)), (9, dq_z (.lconst 0)), (155, dq_2 (fun a => .ifCond .lt (Jvm.ClassFile.Reader.signed 16 a))), (173, dq_z (.lreturn)), (89, dq_z (.dup)), (159, dq_2 (fun a => .if_icmp .eq (Jvm.ClassFile.Reader.signed 16 a))), (156, dq_2 (fun a => .ifCond .ge (Jvm.ClassFile.Reader.signed 16 a))), (104, dq_z (.imul)), (120, dq_z (.ishl)), (7, dq_z (.iconst 4)), (177, dq_z (.return_)), (164, dq_2 (fun a => .if_icmp .le (Jvm.ClassFile.Reader.signed 16 a))), (128, dq_z (.ior)), (50, dq_z (.aaload)), (6, dq_z (.iconst 3)), (163, dq_2 (fun a => .if_icmp .gt (Jvm.ClassFile.Reader.signed 16 a))), (161, dq_2 (fun a => .if_icmp .lt (Jvm.ClassFile.Reader.signed 16 a))), (183, dq_2 (fun a => .invokespecial a)), (47, dq_z (.laload)), (130, dq_z (.ixor)), (33, dq_z (.lload_n 3)), (148, dq_z (.lcmp)), (32, dq_z (.lload_n 2)), (80, dq_z (.lastore)), (10, dq_z (.lconst 1)), (127, dq_z (.land)), (66, dq_z (.lstore_n 3)), (187, dq_2 (fun a => .new a)), (122, dq_z (.ishr)), (124, dq_z (.iushr)), (31, dq_z (.lload_n 1)), (136, dq_z (.l2i)), (22, dq_1 (fun a => .lload a)), (88, dq_z (.pop2)), (51, dq_z (.baload)), (59, dq_z (.istore_n 0)), (190, dq_z (.arraylength)), (65, dq_z (.lstore_n 2)), (8, dq_z (.iconst 5)), (84, dq_z (.bastore)), (19, dq_2 (fun a => .ldc_w a)), (55, dq_1 (fun a => .lstore a)), (129, dq_z (.lor)), (158, dq_2 (fun a => .ifCond .le (Jvm.ClassFile.Reader.signed 16 a))), (108, dq_z (.idiv)), (112, dq_z (.irem)), (178, dq_2 (fun a => .getstatic a)), (121, dq_z (.lshl)), (92, dq_z (.dup2)), (145, dq_z (.i2b)), (147, dq_z (.i2s)), (131, dq_z (.lxor)), (113, dq_z (.lrem)), (109, dq_z (.ldiv)), (30, dq_z (.lload_n 0)), (125, dq_z (.lushr)), (189, dq_2 (fun a => .anewarray a)), (83, dq_z (.aastore)), (97, dq_z (.ladd)), (157, dq_2 (fun a => .ifCond .gt (Jvm.ClassFile.Reader.signed 16 a))), (76, dq_z (.astore_n 1)), (77, dq_z (.astore_n 2))]
theorem dtab_ok : ∀ q ∈ dtab, dq_ok q := List.forall_mem_cons.mpr ⟨de_0, List.forall_mem_cons.mpr ⟨de_1, List.forall_mem_cons.mpr ⟨de_2, List.forall_mem_cons.mpr ⟨de_3, List.forall_mem_cons.mpr ⟨de_4, List.forall_mem_cons.mpr ⟨de_5, List.forall_mem_cons.mpr ⟨de_6, List.forall_mem_cons.mpr ⟨de_7, List.forall_mem_cons.mpr ⟨de_8, List.forall_mem_cons.mpr ⟨de_9, List.forall_mem_cons.mpr ⟨de_10, List.forall_mem_cons.mpr ⟨de_11, List.forall_mem_cons.mpr ⟨de_12, List.forall_mem_cons.mpr ⟨de_13, List.forall_mem_cons.mpr ⟨de_14, List.forall_mem_cons.mpr ⟨de_15, List.forall_mem_cons.mpr ⟨de_16, List.forall_mem_cons.mpr ⟨de_17, List.forall_mem_cons.mpr ⟨de_18, List.forall_mem_cons.mpr ⟨de_19, List.forall_mem_cons.mpr ⟨de_20, List.forall_mem_cons.mpr ⟨de_21, List.forall_mem_cons.mpr ⟨de_22, List.forall_mem_cons.mpr ⟨de_23, List.forall_mem_cons.mpr ⟨de_24, List.forall_mem_cons.mpr ⟨de_25, List.forall_mem_cons.mpr ⟨de_26, List.forall_mem_cons.mpr ⟨de_27, List.forall_mem_cons.mpr ⟨de_28, List.forall_mem_cons.mpr ⟨de_29, List.forall_mem_cons.mpr ⟨de_30, List.forall_mem_cons.mpr ⟨de_31, List.forall_mem_cons.mpr ⟨de_32, List.forall_mem_cons.mpr ⟨de_33, List.forall_mem_cons.mpr ⟨de_34, List.forall_mem_cons.mpr ⟨de_35, List.forall_mem_cons.mpr ⟨de_36, List.forall_mem_cons.mpr ⟨de_37, List.forall_mem_cons.mpr ⟨de_38, List.forall_mem_cons.mpr ⟨de_39, List.forall_mem_cons.mpr ⟨de_40, List.forall_mem_cons.mpr ⟨de_41, List.forall_mem_cons.mpr ⟨de_42, List.forall_mem_cons.mpr ⟨de_43, List.forall_mem_cons.mpr ⟨de_44, List.forall_mem_cons.mpr ⟨de_45, List.forall_mem_cons.mpr ⟨de_46, List.forall_mem_cons.mpr ⟨de_47, List.forall_mem_cons.mpr ⟨de_48, List.forall_mem_cons.mpr ⟨de_49, List.forall_mem_cons.mpr ⟨de_50, List.forall_mem_cons.mpr ⟨de_51, List.forall_mem_cons.mpr ⟨de_52, List.forall_mem_cons.mpr ⟨de_53, List.forall_mem_cons.mpr ⟨de_54, List.forall_mem_cons.mpr ⟨de_55, List.forall_mem_cons.mpr ⟨de_56, List.forall_mem_cons.mpr ⟨de_57, List.forall_mem_cons.mpr ⟨de_58, List.forall_mem_cons.mpr ⟨de_59, List.forall_mem_cons.mpr ⟨de_60, List.forall_mem_cons.mpr ⟨de_61, List.forall_mem_cons.mpr ⟨de_62, List.forall_mem_cons.mpr ⟨de_63, List.forall_mem_cons.mpr ⟨de_64, List.forall_mem_cons.mpr ⟨de_65, List.forall_mem_cons.mpr ⟨de_66, List.forall_mem_cons.mpr ⟨de_67, List.forall_mem_cons.mpr ⟨de_68, List.forall_mem_cons.mpr ⟨de_69, List.forall_mem_cons.mpr ⟨de_70, List.forall_mem_cons.mpr ⟨de_71, List.forall_mem_cons.mpr ⟨de_72, List.forall_mem_cons.mpr ⟨de_73, List.forall_mem_cons.mpr ⟨de_74, List.forall_mem_cons.mpr ⟨de_75, List.forall_mem_cons.mpr ⟨de_76, List.forall_mem_cons.mpr ⟨de_77, List.forall_mem_cons.mpr ⟨de_78, List.forall_mem_cons.mpr ⟨de_79, List.forall_mem_cons.mpr ⟨de_80, List.forall_mem_cons.mpr ⟨de_81, List.forall_mem_cons.mpr ⟨de_82, List.forall_mem_cons.mpr ⟨de_83, List.forall_mem_cons.mpr ⟨de_84, List.forall_mem_cons.mpr ⟨de_85, List.forall_mem_cons.mpr ⟨de_86, List.forall_mem_cons.mpr ⟨de_87, List.forall_mem_cons.mpr ⟨de_88, List.forall_mem_cons.mpr ⟨de_89, List.forall_mem_cons.mpr ⟨de_90, List.forall_mem_cons.mpr ⟨de_91, List.forall_mem_cons.mpr ⟨de_92, List.forall_mem_cons.mpr ⟨de_93, List.forall_mem_cons.mpr ⟨de_94, List.forall_mem_cons.mpr ⟨de_95, List.forall_mem_cons.mpr ⟨de_96, List.forall_mem_cons.mpr ⟨de_97, List.forall_mem_cons.mpr ⟨de_98, fun _ h => absurd h List.not_mem_nil⟩⟩⟩⟩⟩⟩⟩⟩⟩⟩⟩⟩⟩⟩⟩⟩⟩⟩⟩⟩⟩⟩⟩⟩⟩⟩⟩⟩⟩⟩⟩⟩⟩⟩⟩⟩⟩⟩⟩⟩⟩⟩⟩⟩⟩⟩⟩⟩⟩⟩⟩⟩⟩⟩⟩⟩⟩⟩⟩⟩⟩⟩⟩⟩⟩⟩⟩⟩⟩⟩⟩⟩⟩⟩⟩⟩⟩⟩⟩⟩⟩⟩⟩⟩⟩⟩⟩⟩⟩⟩⟩⟩⟩⟩⟩⟩⟩⟩⟩
def dchk : List (Nat × Instr × Nat) → List UInt8 → Nat → Bool
  | [], _, _ => true
  | x :: r, s, q => match s.drop (x.1 - q) with
    | [] => false
    | b :: t => Nat.ble q x.1 && (decide (dlk dtab b.toNat t = some x.2) && dchk r (b :: t) x.1)
theorem dchk_ok : ∀ (l : List (Nat × Instr × Nat)) (c : ByteArray) (s : List UInt8) (q : Nat), c.data.toList.drop q = s → dchk l s q = true → ∀ x ∈ l, decode c x.1 = .ok x.2
  | [], _, _, _, _, _, _, hx => absurd hx List.not_mem_nil
  | y :: r, c, s, q, hs, h, x, hx => by
    unfold dchk at h
    cases e : s.drop (y.1 - q) with
    | nil => rw [e] at h; cases h
    | cons b t =>
      rw [e] at h
      simp only [Bool.and_eq_true, decide_eq_true_eq] at h
      obtain ⟨h1, h2, h3⟩ := h
      have hle : q ≤ y.1 := Nat.le_of_ble_eq_true h1
      have hd : c.data.toList.drop y.1 = b :: t := by
        rw [← e, ← hs, List.drop_drop]
        congr 1
        omega
      rcases List.mem_cons.mp hx with rfl | hx
      · exact dlk_ok dtab dtab_ok c _ b t _ hd h2
      · exact dchk_ok r c (b :: t) y.1 hd h3 x hx
def dgrp (c : ByteArray) (l : List (Nat × Instr × Nat)) : Bool := match l with
  | [] => true
  | x :: _ => dchk l (c.data.toList.drop x.1) x.1
theorem dgrp_at {c : ByteArray} {l : List (Nat × Instr × Nat)} (h : dgrp c l = true) (i : Nat) {p : Nat} {r : Instr × Nat} (e : l[i]? = some (p, r)) : decode c p = .ok r := by
  have hm := List.mem_of_getElem? e
  cases l with
  | nil => cases hm
  | cons x l => exact dchk_ok (x :: l) c _ x.1 rfl h (p, r) hm
