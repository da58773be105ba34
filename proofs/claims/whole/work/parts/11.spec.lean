-- ===== rows of the closed phase; booleans; small numbers =====
abbrev zq : Type := Option Nat × Option Nat × Option Nat
/-- the references: those that the constructors lay, and Forecast's three -/
def zR1 (q : zq) : zR := fun o k => bif Nat.beq o 89 then (bif Nat.beq k 8 then q.1 else bif Nat.beq k 9 then q.2.1 else bif Nat.beq k 10 then q.2.2 else zR0 o k) else zR0 o k
def zbo (b : Bool) : Int32 := match b with
  | true => 1
  | false => 0
theorem zbo_ne {b : Bool} {A B : Prop} (f : b = true → A) (g : b = false → B) : (¬ zbo b = 0 → A) ∧ (zbo b = 0 → B) := by
  cases b
  · exact ⟨fun z => absurd rfl z, fun _ => g rfl⟩
  · exact ⟨fun _ => f rfl, fun z => absurd z (by decide)⟩
theorem zbo_eq {b : Bool} {A B : Prop} (f : b = false → A) (g : b = true → B) : (zbo b = 0 → A) ∧ (¬ zbo b = 0 → B) := by
  cases b
  · exact ⟨fun _ => f rfl, fun z => absurd rfl z⟩
  · exact ⟨fun z => absurd z (by decide), fun _ => g rfl⟩
theorem zbo_nar (b : Bool) : narrow .boolean (.int (zbo b)) = .int (zbo b) := by cases b <;> rfl
theorem zbo_fit (b : Bool) : fits .boolean (.int (zbo b)) = true := by cases b <;> rfl
theorem zbo_nar2 (b : Bool) : vp_nar .boolean (zbo b) = zbo b := by cases b <;> rfl
theorem zpow2 : ∀ k, k < 10 → zstv 2 k = nI (3 ^ k) := by decide +kernel
theorem zpow0 : ∀ k, k < 10 → zstv 0 k = nI (3 ^ k) := by decide +kernel
theorem zpow_lt : ∀ k, k < 10 → 0 < 3 ^ k ∧ 3 ^ k < 20000 := by decide +kernel
theorem zmod0 (a : Nat) : a % 2 = 0 ∨ a % 2 = 1 := by omega
-- ===== the game, told: 0 heap game?, 1 wide, 2 high, 3 in a row, 4 misere?, 5 heap, 6 takes, 7 likeness?, 8 side =====
abbrev zg : Type := Nat → Nat
def gOk (g : zg) : Prop := g 0 ≤ 1 ∧ (1 ≤ g 1 ∧ g 1 ≤ 3) ∧ (1 ≤ g 2 ∧ g 2 ≤ 3) ∧ (1 ≤ g 3 ∧ g 3 ≤ 3) ∧ g 4 ≤ 1 ∧ (1 ≤ g 5 ∧ g 5 ≤ 20) ∧ (1 ≤ g 6 ∧ g 6 ≤ 3) ∧ g 7 ≤ 1 ∧ g 8 ≤ 1
/-- the model's nine cells of it -/
def mG (g : zg) (I : zI) : Prop := gOk g ∧ ∀ k, k < 9 → I 0 k = nI (g k)
def sCell (p k : Nat) : Nat := p / 3 ^ k % 3
def sPl (g : zg) : Nat := g 1 * g 2
def sCnt (p : Nat) : Nat → Nat
  | 0 => 0
  | k + 1 => sCnt p k + (if 0 < sCell p k then 1 else 0)
def sStn (g : zg) (p : Nat) : Nat := if g 0 = 1 then g 5 - p / 2 else sCnt p (sPl g)
def sFirst (g : zg) : Nat := if g 0 = 1 then 2 * g 5 else 0
def sMov (g : zg) (p : Nat) : Nat := if g 0 = 1 then p % 2 else sCnt p (sPl g) % 2
def sMM (g : zg) : Nat := if g 0 = 1 then g 6 else sPl g
def sCan (g : zg) (p m : Nat) : Bool := decide (m < sMM g) && (if g 0 = 1 then decide (m + 1 ≤ p / 2) else decide (sCell p m = 0))
def sBeh (g : zg) (p m : Nat) : Nat := if g 0 = 1 then 2 * (p / 2 - m - 1) + 1 - p % 2 else p + (sMov g p + 1) * 3 ^ m
theorem mG0 {g : zg} {I : zI} (h : mG g I) (k : Nat) (hk : k < 9) : I 0 k = nI (g k) := h.2 k hk
theorem sPl_pos {g : zg} (h : gOk g) : 1 ≤ sPl g ∧ sPl g ≤ 9 := by
  obtain ⟨-, ⟨h1, h2⟩, ⟨h3, h4⟩, -⟩ := h
  unfold sPl
  exact ⟨Nat.mul_le_mul h1 h3, Nat.mul_le_mul h2 h4⟩
theorem sCnt_le (p : Nat) : ∀ k, sCnt p k ≤ k
  | 0 => Nat.le_refl _
  | k + 1 => by
    have h := sCnt_le p k
    unfold sCnt
    split <;> omega
theorem sMM_pos {g : zg} (h : gOk g) : 1 ≤ sMM g ∧ sMM g ≤ 9 := by
  have q := sPl_pos h
  obtain ⟨-, -, -, -, -, -, ⟨h1, h2⟩, -⟩ := h
  unfold sMM
  split <;> omega
theorem sMov_le (g : zg) (p : Nat) : sMov g p ≤ 1 := by
  unfold sMov
  split <;> omega
