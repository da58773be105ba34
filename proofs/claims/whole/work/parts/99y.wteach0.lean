-- ===== the orders of foes, by numbers and by bits =====
def tDg (o i : Nat) : Nat := if i = 0 then o / 9 else if i = 1 then o / 3 % 3 else o % 3
def tOrd (o m : Nat) : Bool := (if m = 1 then o == 0 else if m = 2 then (o == 3 || o == 9) else if m = 3 then (o == 5 || o == 7 || o == 11 || o == 15 || o == 19 || o == 21) else false)
def tNb (b n : Nat) : Nat := (sNth b 31 0 n).getD 0
def tLs (b o : Nat) : Nat → List Nat
  | 0 => []
  | i + 1 => tLs b o i ++ [tNb b (tDg o i)]
def tOs (b m : Nat) : Nat → List (List Nat)
  | 0 => []
  | o + 1 => if tOrd o m = true then tOs b m o ++ [tLs b o m] else tOs b m o
theorem tOs_d : ∀ nf, nf < 9 → ∀ b, b < 2 ^ nf → (b == 0 || Nat.blt 3 (sBits b) || tOs b (sBits b) 27 == sPm nf 3 b []) = true := by decide +kernel
theorem tOs_all {nf b : Nat} (h : nf < 9) (hb : b < 2 ^ nf) (h0 : b ≠ 0) (h3 : sBits b ≤ 3) : tOs b (sBits b) 27 = sPm nf 3 b [] := by
  have d := tOs_d nf h b hb
  rw [Bool.or_eq_true, Bool.or_eq_true] at d
  rcases d with (d | d) | d
  · exact absurd (beq_iff_eq.mp d) h0
  · have := Nat.blt_eq.mp d
    omega
  · exact beq_iff_eq.mp d
theorem tNb_all : ∀ nf, nf < 9 → ∀ b, b < 2 ^ nf → ∀ k, k < sBits b → sNth b 31 0 k = some (tNb b k) ∧ tNb b k < nf := by decide +kernel
theorem tOrd_dg : ∀ m, m < 4 → ∀ o, o < 27 → tOrd o m = true → ∀ i, i < m → tDg o i < m := by decide +kernel
