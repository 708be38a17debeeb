def ll2 {β A1 A2 : Type} (F : (A1 → A2 → Option β) → A1 → A2 → Option β) : Nat → A1 → A2 → Option β
  | 0 => fun _ _ => none
  | n + 1 => F (ll2 F n)
theorem ll2_s {β A1 A2 : Type} {F : (A1 → A2 → Option β) → A1 → A2 → Option β} {n : Nat} {a1 : A1} {a2 : A2} {r : Option β} (h : ll2 F (n + 1) a1 a2 = r) : F (ll2 F n) a1 a2 = r := h
theorem ll2_z {β A1 A2 : Type} {F : (A1 → A2 → Option β) → A1 → A2 → Option β} {a1 : A1} {a2 : A2} {r : β} (h : ll2 F 0 a1 a2 = some r) : False := by
  have h2 : (none : Option β) = some r := h
  cases h2
def ll3 {β A1 A2 A3 : Type} (F : (A1 → A2 → A3 → Option β) → A1 → A2 → A3 → Option β) : Nat → A1 → A2 → A3 → Option β
  | 0 => fun _ _ _ => none
  | n + 1 => F (ll3 F n)
theorem ll3_s {β A1 A2 A3 : Type} {F : (A1 → A2 → A3 → Option β) → A1 → A2 → A3 → Option β} {n : Nat} {a1 : A1} {a2 : A2} {a3 : A3} {r : Option β} (h : ll3 F (n + 1) a1 a2 a3 = r) : F (ll3 F n) a1 a2 a3 = r := h
theorem ll3_z {β A1 A2 A3 : Type} {F : (A1 → A2 → A3 → Option β) → A1 → A2 → A3 → Option β} {a1 : A1} {a2 : A2} {a3 : A3} {r : β} (h : ll3 F 0 a1 a2 a3 = some r) : False := by
  have h2 : (none : Option β) = some r := h
  cases h2
def ll4 {β A1 A2 A3 A4 : Type} (F : (A1 → A2 → A3 → A4 → Option β) → A1 → A2 → A3 → A4 → Option β) : Nat → A1 → A2 → A3 → A4 → Option β
  | 0 => fun _ _ _ _ => none
  | n + 1 => F (ll4 F n)
theorem ll4_s {β A1 A2 A3 A4 : Type} {F : (A1 → A2 → A3 → A4 → Option β) → A1 → A2 → A3 → A4 → Option β} {n : Nat} {a1 : A1} {a2 : A2} {a3 : A3} {a4 : A4} {r : Option β} (h : ll4 F (n + 1) a1 a2 a3 a4 = r) : F (ll4 F n) a1 a2 a3 a4 = r := h
theorem ll4_z {β A1 A2 A3 A4 : Type} {F : (A1 → A2 → A3 → A4 → Option β) → A1 → A2 → A3 → A4 → Option β} {a1 : A1} {a2 : A2} {a3 : A3} {a4 : A4} {r : β} (h : ll4 F 0 a1 a2 a3 a4 = some r) : False := by
  have h2 : (none : Option β) = some r := h
  cases h2
def ll5 {β A1 A2 A3 A4 A5 : Type} (F : (A1 → A2 → A3 → A4 → A5 → Option β) → A1 → A2 → A3 → A4 → A5 → Option β) : Nat → A1 → A2 → A3 → A4 → A5 → Option β
  | 0 => fun _ _ _ _ _ => none
  | n + 1 => F (ll5 F n)
theorem ll5_s {β A1 A2 A3 A4 A5 : Type} {F : (A1 → A2 → A3 → A4 → A5 → Option β) → A1 → A2 → A3 → A4 → A5 → Option β} {n : Nat} {a1 : A1} {a2 : A2} {a3 : A3} {a4 : A4} {a5 : A5} {r : Option β} (h : ll5 F (n + 1) a1 a2 a3 a4 a5 = r) : F (ll5 F n) a1 a2 a3 a4 a5 = r := h
theorem ll5_z {β A1 A2 A3 A4 A5 : Type} {F : (A1 → A2 → A3 → A4 → A5 → Option β) → A1 → A2 → A3 → A4 → A5 → Option β} {a1 : A1} {a2 : A2} {a3 : A3} {a4 : A4} {a5 : A5} {r : β} (h : ll5 F 0 a1 a2 a3 a4 a5 = some r) : False := by
  have h2 : (none : Option β) = some r := h
  cases h2
def ll6 {β A1 A2 A3 A4 A5 A6 : Type} (F : (A1 → A2 → A3 → A4 → A5 → A6 → Option β) → A1 → A2 → A3 → A4 → A5 → A6 → Option β) : Nat → A1 → A2 → A3 → A4 → A5 → A6 → Option β
  | 0 => fun _ _ _ _ _ _ => none
  | n + 1 => F (ll6 F n)
theorem ll6_s {β A1 A2 A3 A4 A5 A6 : Type} {F : (A1 → A2 → A3 → A4 → A5 → A6 → Option β) → A1 → A2 → A3 → A4 → A5 → A6 → Option β} {n : Nat} {a1 : A1} {a2 : A2} {a3 : A3} {a4 : A4} {a5 : A5} {a6 : A6} {r : Option β} (h : ll6 F (n + 1) a1 a2 a3 a4 a5 a6 = r) : F (ll6 F n) a1 a2 a3 a4 a5 a6 = r := h
theorem ll6_z {β A1 A2 A3 A4 A5 A6 : Type} {F : (A1 → A2 → A3 → A4 → A5 → A6 → Option β) → A1 → A2 → A3 → A4 → A5 → A6 → Option β} {a1 : A1} {a2 : A2} {a3 : A3} {a4 : A4} {a5 : A5} {a6 : A6} {r : β} (h : ll6 F 0 a1 a2 a3 a4 a5 a6 = some r) : False := by
  have h2 : (none : Option β) = some r := h
  cases h2
def ll7 {β A1 A2 A3 A4 A5 A6 A7 : Type} (F : (A1 → A2 → A3 → A4 → A5 → A6 → A7 → Option β) → A1 → A2 → A3 → A4 → A5 → A6 → A7 → Option β) : Nat → A1 → A2 → A3 → A4 → A5 → A6 → A7 → Option β
  | 0 => fun _ _ _ _ _ _ _ => none
  | n + 1 => F (ll7 F n)
theorem ll7_s {β A1 A2 A3 A4 A5 A6 A7 : Type} {F : (A1 → A2 → A3 → A4 → A5 → A6 → A7 → Option β) → A1 → A2 → A3 → A4 → A5 → A6 → A7 → Option β} {n : Nat} {a1 : A1} {a2 : A2} {a3 : A3} {a4 : A4} {a5 : A5} {a6 : A6} {a7 : A7} {r : Option β} (h : ll7 F (n + 1) a1 a2 a3 a4 a5 a6 a7 = r) : F (ll7 F n) a1 a2 a3 a4 a5 a6 a7 = r := h
theorem ll7_z {β A1 A2 A3 A4 A5 A6 A7 : Type} {F : (A1 → A2 → A3 → A4 → A5 → A6 → A7 → Option β) → A1 → A2 → A3 → A4 → A5 → A6 → A7 → Option β} {a1 : A1} {a2 : A2} {a3 : A3} {a4 : A4} {a5 : A5} {a6 : A6} {a7 : A7} {r : β} (h : ll7 F 0 a1 a2 a3 a4 a5 a6 a7 = some r) : False := by
  have h2 : (none : Option β) = some r := h
  cases h2
def ll8 {β A1 A2 A3 A4 A5 A6 A7 A8 : Type} (F : (A1 → A2 → A3 → A4 → A5 → A6 → A7 → A8 → Option β) → A1 → A2 → A3 → A4 → A5 → A6 → A7 → A8 → Option β) : Nat → A1 → A2 → A3 → A4 → A5 → A6 → A7 → A8 → Option β
  | 0 => fun _ _ _ _ _ _ _ _ => none
  | n + 1 => F (ll8 F n)
theorem ll8_s {β A1 A2 A3 A4 A5 A6 A7 A8 : Type} {F : (A1 → A2 → A3 → A4 → A5 → A6 → A7 → A8 → Option β) → A1 → A2 → A3 → A4 → A5 → A6 → A7 → A8 → Option β} {n : Nat} {a1 : A1} {a2 : A2} {a3 : A3} {a4 : A4} {a5 : A5} {a6 : A6} {a7 : A7} {a8 : A8} {r : Option β} (h : ll8 F (n + 1) a1 a2 a3 a4 a5 a6 a7 a8 = r) : F (ll8 F n) a1 a2 a3 a4 a5 a6 a7 a8 = r := h
theorem ll8_z {β A1 A2 A3 A4 A5 A6 A7 A8 : Type} {F : (A1 → A2 → A3 → A4 → A5 → A6 → A7 → A8 → Option β) → A1 → A2 → A3 → A4 → A5 → A6 → A7 → A8 → Option β} {a1 : A1} {a2 : A2} {a3 : A3} {a4 : A4} {a5 : A5} {a6 : A6} {a7 : A7} {a8 : A8} {r : β} (h : ll8 F 0 a1 a2 a3 a4 a5 a6 a7 a8 = some r) : False := by
  have h2 : (none : Option β) = some r := h
  cases h2
def ll9 {β A1 A2 A3 A4 A5 A6 A7 A8 A9 : Type} (F : (A1 → A2 → A3 → A4 → A5 → A6 → A7 → A8 → A9 → Option β) → A1 → A2 → A3 → A4 → A5 → A6 → A7 → A8 → A9 → Option β) : Nat → A1 → A2 → A3 → A4 → A5 → A6 → A7 → A8 → A9 → Option β
  | 0 => fun _ _ _ _ _ _ _ _ _ => none
  | n + 1 => F (ll9 F n)
theorem ll9_s {β A1 A2 A3 A4 A5 A6 A7 A8 A9 : Type} {F : (A1 → A2 → A3 → A4 → A5 → A6 → A7 → A8 → A9 → Option β) → A1 → A2 → A3 → A4 → A5 → A6 → A7 → A8 → A9 → Option β} {n : Nat} {a1 : A1} {a2 : A2} {a3 : A3} {a4 : A4} {a5 : A5} {a6 : A6} {a7 : A7} {a8 : A8} {a9 : A9} {r : Option β} (h : ll9 F (n + 1) a1 a2 a3 a4 a5 a6 a7 a8 a9 = r) : F (ll9 F n) a1 a2 a3 a4 a5 a6 a7 a8 a9 = r := h
theorem ll9_z {β A1 A2 A3 A4 A5 A6 A7 A8 A9 : Type} {F : (A1 → A2 → A3 → A4 → A5 → A6 → A7 → A8 → A9 → Option β) → A1 → A2 → A3 → A4 → A5 → A6 → A7 → A8 → A9 → Option β} {a1 : A1} {a2 : A2} {a3 : A3} {a4 : A4} {a5 : A5} {a6 : A6} {a7 : A7} {a8 : A8} {a9 : A9} {r : β} (h : ll9 F 0 a1 a2 a3 a4 a5 a6 a7 a8 a9 = some r) : False := by
  have h2 : (none : Option β) = some r := h
  cases h2
def ll10 {β A1 A2 A3 A4 A5 A6 A7 A8 A9 A10 : Type} (F : (A1 → A2 → A3 → A4 → A5 → A6 → A7 → A8 → A9 → A10 → Option β) → A1 → A2 → A3 → A4 → A5 → A6 → A7 → A8 → A9 → A10 → Option β) : Nat → A1 → A2 → A3 → A4 → A5 → A6 → A7 → A8 → A9 → A10 → Option β
  | 0 => fun _ _ _ _ _ _ _ _ _ _ => none
  | n + 1 => F (ll10 F n)
theorem ll10_s {β A1 A2 A3 A4 A5 A6 A7 A8 A9 A10 : Type} {F : (A1 → A2 → A3 → A4 → A5 → A6 → A7 → A8 → A9 → A10 → Option β) → A1 → A2 → A3 → A4 → A5 → A6 → A7 → A8 → A9 → A10 → Option β} {n : Nat} {a1 : A1} {a2 : A2} {a3 : A3} {a4 : A4} {a5 : A5} {a6 : A6} {a7 : A7} {a8 : A8} {a9 : A9} {a10 : A10} {r : Option β} (h : ll10 F (n + 1) a1 a2 a3 a4 a5 a6 a7 a8 a9 a10 = r) : F (ll10 F n) a1 a2 a3 a4 a5 a6 a7 a8 a9 a10 = r := h
theorem ll10_z {β A1 A2 A3 A4 A5 A6 A7 A8 A9 A10 : Type} {F : (A1 → A2 → A3 → A4 → A5 → A6 → A7 → A8 → A9 → A10 → Option β) → A1 → A2 → A3 → A4 → A5 → A6 → A7 → A8 → A9 → A10 → Option β} {a1 : A1} {a2 : A2} {a3 : A3} {a4 : A4} {a5 : A5} {a6 : A6} {a7 : A7} {a8 : A8} {a9 : A9} {a10 : A10} {r : β} (h : ll10 F 0 a1 a2 a3 a4 a5 a6 a7 a8 a9 a10 = some r) : False := by
  have h2 : (none : Option β) = some r := h
  cases h2
def ll12 {β A1 A2 A3 A4 A5 A6 A7 A8 A9 A10 A11 A12 : Type} (F : (A1 → A2 → A3 → A4 → A5 → A6 → A7 → A8 → A9 → A10 → A11 → A12 → Option β) → A1 → A2 → A3 → A4 → A5 → A6 → A7 → A8 → A9 → A10 → A11 → A12 → Option β) : Nat → A1 → A2 → A3 → A4 → A5 → A6 → A7 → A8 → A9 → A10 → A11 → A12 → Option β
  | 0 => fun _ _ _ _ _ _ _ _ _ _ _ _ => none
  | n + 1 => F (ll12 F n)
theorem ll12_s {β A1 A2 A3 A4 A5 A6 A7 A8 A9 A10 A11 A12 : Type} {F : (A1 → A2 → A3 → A4 → A5 → A6 → A7 → A8 → A9 → A10 → A11 → A12 → Option β) → A1 → A2 → A3 → A4 → A5 → A6 → A7 → A8 → A9 → A10 → A11 → A12 → Option β} {n : Nat} {a1 : A1} {a2 : A2} {a3 : A3} {a4 : A4} {a5 : A5} {a6 : A6} {a7 : A7} {a8 : A8} {a9 : A9} {a10 : A10} {a11 : A11} {a12 : A12} {r : Option β} (h : ll12 F (n + 1) a1 a2 a3 a4 a5 a6 a7 a8 a9 a10 a11 a12 = r) : F (ll12 F n) a1 a2 a3 a4 a5 a6 a7 a8 a9 a10 a11 a12 = r := h
theorem ll12_z {β A1 A2 A3 A4 A5 A6 A7 A8 A9 A10 A11 A12 : Type} {F : (A1 → A2 → A3 → A4 → A5 → A6 → A7 → A8 → A9 → A10 → A11 → A12 → Option β) → A1 → A2 → A3 → A4 → A5 → A6 → A7 → A8 → A9 → A10 → A11 → A12 → Option β} {a1 : A1} {a2 : A2} {a3 : A3} {a4 : A4} {a5 : A5} {a6 : A6} {a7 : A7} {a8 : A8} {a9 : A9} {a10 : A10} {a11 : A11} {a12 : A12} {r : β} (h : ll12 F 0 a1 a2 a3 a4 a5 a6 a7 a8 a9 a10 a11 a12 = some r) : False := by
  have h2 : (none : Option β) = some r := h
  cases h2
