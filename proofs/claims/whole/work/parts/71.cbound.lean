-- ===== how many boxes a side can have =====
theorem sCB_mono {f f' : Nat → Bool} : ∀ n, (∀ x, x < n → f x = true → f' x = true) → sCB f n ≤ sCB f' n
  | 0, _ => Nat.le_refl _
  | n + 1, h => by
    have q := sCB_mono n (fun x hx => h x (by omega))
    rw [sCB, sCB]
    by_cases c : f n = true
    · rw [if_pos c, if_pos (h n (by omega) c)]
      omega
    · rw [if_neg c]
      omega
theorem sCB_bd {f : Nat → Bool} {b : Nat} : ∀ n, (∀ x, x < n → f x = true → x < b) → sCB f n ≤ b
  | 0, _ => Nat.zero_le _
  | n + 1, h => by
    rw [sCB]
    by_cases c : f n = true
    · rw [if_pos c]
      have := sCB_le f n
      have := h n (by omega) c
      omega
    · rw [if_neg c]
      exact sCB_bd n (fun x hx => h x (by omega))
/-- the numbers from a on, n of them, that f holds of -/
def sCR (f : Nat → Bool) (a : Nat) : Nat → Nat
  | 0 => 0
  | n + 1 => sCR f a n + (if f (a + n) = true then 1 else 0)
theorem sCR_add (f : Nat → Bool) (a n : Nat) : ∀ m, sCR f a (n + m) = sCR f a n + sCR f (a + n) m
  | 0 => rfl
  | m + 1 => by
    show sCR f a (n + m) + _ = sCR f a n + (sCR f (a + n) m + _)
    rw [sCR_add f a n m, Nat.add_assoc, Nat.add_assoc]
    rfl
theorem sCR_0 (f : Nat → Bool) : ∀ n, sCR f 0 n = sCB f n
  | 0 => rfl
  | n + 1 => by rw [sCR, sCB, sCR_0 f n, Nat.zero_add]
/-- the same, by thirds -/
def sCT (f : Nat → Bool) : Nat → Nat → Nat
  | 0, a => bif f a then 1 else 0
  | n + 1, a => sCT f n (3 * a) + (sCT f n (3 * a + 1) + sCT f n (3 * a + 2))
theorem sCT_eq (f : Nat → Bool) : ∀ n a, sCT f n a = sCR f (a * 3 ^ n) (3 ^ n)
  | 0, a => by
    rw [sCT, Nat.pow_zero, Nat.mul_one]
    show _ = 0 + (if f (a + 0) = true then 1 else 0)
    rw [Nat.add_zero, Nat.zero_add]
    cases f a <;> rfl
  | n + 1, a => by
    rw [sCT, sCT_eq f n, sCT_eq f n, sCT_eq f n]
    have e : 3 ^ (n + 1) = 3 ^ n + (3 ^ n + 3 ^ n) := by rw [Nat.pow_succ]; omega
    generalize 3 ^ n = w at e
    rw [e, sCR_add, sCR_add]
    have e1 : a * (w + (w + w)) = 3 * a * w := by rw [Nat.mul_add, Nat.mul_add, Nat.mul_assoc]; omega
    rw [e1, show 3 * a * w + w = (3 * a + 1) * w by rw [Nat.add_mul, Nat.one_mul], show (3 * a + 1) * w + w = (3 * a + 2) * w by rw [show 3 * a + 2 = 3 * a + 1 + 1 by omega, Nat.add_mul (3 * a + 1), Nat.one_mul]]
/-- how many of the first cells hold v -/
def sK1 (v x : Nat) : Nat → Nat
  | 0 => 0
  | n + 1 => sK1 v x n + (bif Nat.beq (sCell x n) v then 1 else 0)
def tri (x v a b c : Nat) : Bool := Nat.beq (sCell x a) v && (Nat.beq (sCell x b) v && Nat.beq (sCell x c) v)
def row3 (x v : Nat) : Bool := tri x v 0 1 2 || (tri x v 3 4 5 || (tri x v 6 7 8 || (tri x v 0 3 6 || (tri x v 1 4 7 || (tri x v 2 5 8 || (tri x v 0 4 8 || tri x v 6 4 2))))))
def cOk3 (s x : Nat) : Bool := Nat.beq (sK1 1 x 9) (sK1 2 x 9 + s) && (!row3 x 1 && !row3 x 2)
theorem cOk3_0 : Nat.ble (sCT (cOk3 0) 9 0) 2423 = true := by decide +kernel
theorem cOk3_1 : Nat.ble (sCT (cOk3 1) 9 0) 2423 = true := by decide +kernel
theorem cOk3_n {s : Nat} (h : s ≤ 1) : sCB (cOk3 s) 19683 ≤ 2423 := by
  have e : ∀ s, sCB (cOk3 s) 19683 = sCT (cOk3 s) 9 0 := fun s => by
    rw [sCT_eq, Nat.zero_mul, sCR_0]
  rw [e]
  rcases (show s = 0 ∨ s = 1 by omega) with rfl | rfl
  · exact Nat.le_of_ble_eq_true cOk3_0
  · exact Nat.le_of_ble_eq_true cOk3_1
