-- ===== the spec: digits, moves, the depth of a position, what it is worth =====
theorem sCell_0 (p : Nat) : sCell p 0 = p % 3 := by unfold sCell; rw [Nat.pow_zero, Nat.div_one]
theorem sCell_s (p k : Nat) : sCell p (k + 1) = sCell (p / 3) k := by
  unfold sCell
  rw [Nat.pow_succ, Nat.mul_comm (3 ^ k) 3, Nat.div_div_eq_div_mul]
theorem sCell_set (s : Nat) (hs : s < 3) : ∀ m p k, sCell p m = 0 → sCell (p + s * 3 ^ m) k = if k = m then s else sCell p k
  | 0, p, k, h => by
    rw [sCell_0] at h
    rw [Nat.pow_zero, Nat.mul_one]
    cases k with
    | zero => rw [if_pos rfl, sCell_0]; omega
    | succ k => rw [if_neg (by omega), sCell_s, sCell_s, show (p + s) / 3 = p / 3 by omega]
  | m + 1, p, k, h => by
    rw [sCell_s] at h
    have e : s * 3 ^ (m + 1) = 3 * (s * 3 ^ m) := by rw [Nat.pow_succ, Nat.mul_comm (3 ^ m) 3, ← Nat.mul_assoc, Nat.mul_comm s 3, Nat.mul_assoc]
    rw [e]
    cases k with
    | zero => rw [if_neg (by omega), sCell_0, sCell_0, Nat.add_mul_mod_self_left]
    | succ k =>
      rw [sCell_s, sCell_s, Nat.add_mul_div_left _ _ (by decide), sCell_set s hs m (p / 3) k h]
      by_cases c : k = m
      · rw [if_pos c, if_pos (by omega)]
      · rw [if_neg c, if_neg (by omega)]
theorem sCell_lt (s : Nat) (hs : s < 3) : ∀ m n p, m < n → p < 3 ^ n → sCell p m = 0 → p + s * 3 ^ m < 3 ^ n
  | _, 0, _, h, _, _ => absurd h (Nat.not_lt_zero _)
  | 0, n + 1, p, _, hp, h => by
    rw [sCell_0] at h
    rw [Nat.pow_zero, Nat.mul_one]
    rw [Nat.pow_succ] at hp ⊢
    omega
  | m + 1, n + 1, p, hm, hp, h => by
    rw [sCell_s] at h
    have e : s * 3 ^ (m + 1) = 3 * (s * 3 ^ m) := by rw [Nat.pow_succ, Nat.mul_comm (3 ^ m) 3, ← Nat.mul_assoc, Nat.mul_comm s 3, Nat.mul_assoc]
    rw [e]
    rw [Nat.pow_succ] at hp ⊢
    have q := sCell_lt s hs m n (p / 3) (by omega) (by omega) h
    omega
theorem sCnt_set (s : Nat) (hs : s < 3) (h0 : 0 < s) (p m : Nat) (h : sCell p m = 0) : ∀ k, sCnt (p + s * 3 ^ m) k = sCnt p k + (if m < k then 1 else 0)
  | 0 => by rw [if_neg (by omega)]; rfl
  | k + 1 => by
    have q := sCnt_set s hs h0 p m h k
    rw [sCnt, sCnt, q, sCell_set s hs m p k h]
    by_cases c : k = m
    · subst c
      rw [if_pos rfl, h]
      repeat' split
      all_goals omega
    · rw [if_neg c]
      repeat' split
      all_goals omega
/-- a number in the range of the game -/
def sIn (g : zg) (p : Nat) : Prop := if g 0 = 1 then p / 2 ≤ g 5 else p < 3 ^ sPl g
theorem zpow_le9 {n : Nat} (h : n ≤ 9) : 3 ^ n ≤ 19683 := Nat.pow_le_pow_right (n := 3) (by decide) h
theorem sIn_ok {g : zg} (hg : gOk g) {p : Nat} (h : sIn g p) : pOk g p := by
  have h5 : g 5 ≤ 20 := hg.2.2.2.2.2.1.2
  have hpl := sPl_pos hg
  unfold sIn at h
  by_cases c : g 0 = 1
  · rw [if_pos c] at h
    exact ⟨by omega, fun _ => h⟩
  · rw [if_neg c] at h
    have := zpow_le9 hpl.2
    exact ⟨by omega, fun z => absurd z c⟩
/-- how many moves a game can still have -/
def sDep (g : zg) (p : Nat) : Nat := if g 0 = 1 then p / 2 else sPl g - sCnt p (sPl g)
theorem sDep_lt {g : zg} (hg : gOk g) {p m : Nat} (h : sCan g p m = true) : sDep g (sBeh g p m) < sDep g p := by
  rcases g0_01 hg with c | c
  · obtain ⟨h1, h2⟩ := sCan_board h c
    have hm := sMov_le g p
    have q := sCnt_set (sMov g p + 1) (by omega) (by omega) p m h1 (sPl g)
    have l := sCnt_le (p + (sMov g p + 1) * 3 ^ m) (sPl g)
    unfold sDep sBeh
    rw [if_neg (by omega), if_neg (by omega), if_neg (by omega)]
    rw [if_pos h2] at q
    omega
  · have h1 := sCan_heap h c
    unfold sDep sBeh
    rw [if_pos c, if_pos c, if_pos c]
    omega
theorem sIn_beh {g : zg} (hg : gOk g) {p m : Nat} (hp : sIn g p) (h : sCan g p m = true) : sIn g (sBeh g p m) := by
  rcases g0_01 hg with c | c
  · obtain ⟨h1, h2⟩ := sCan_board h c
    have hm := sMov_le g p
    unfold sIn at hp ⊢
    unfold sBeh
    rw [if_neg (by omega)] at hp ⊢
    rw [if_neg (by omega)]
    exact sCell_lt _ (by omega) _ _ _ h2 hp h1
  · have h1 := sCan_heap h c
    unfold sIn at hp ⊢
    unfold sBeh
    rw [if_pos c] at hp ⊢
    rw [if_pos c]
    omega
theorem sMov_beh {g : zg} (hg : gOk g) {p m : Nat} (h : sCan g p m = true) : sMov g (sBeh g p m) = 1 - sMov g p := by
  have hm := sMov_le g p
  rcases g0_01 hg with c | c
  · obtain ⟨h1, h2⟩ := sCan_board h c
    have q := sCnt_set (sMov g p + 1) (by omega) (by omega) p m h1 (sPl g)
    rw [if_pos h2] at q
    have e : sMov g p = sCnt p (sPl g) % 2 := by unfold sMov; rw [if_neg (by omega)]
    have e2 : sMov g (sBeh g p m) = sCnt (sBeh g p m) (sPl g) % 2 := by unfold sMov; rw [if_neg (by omega)]
    have e3 : sBeh g p m = p + (sMov g p + 1) * 3 ^ m := by unfold sBeh; rw [if_neg (by omega)]
    rw [e2, e3, q, e]
    omega
  · have h1 := sCan_heap h c
    have e : sMov g p = p % 2 := by unfold sMov; rw [if_pos c]
    have e2 : sMov g (sBeh g p m) = sBeh g p m % 2 := by unfold sMov; rw [if_pos c]
    rw [e2, e]
    unfold sBeh
    rw [if_pos c]
    omega
/-- the positions that the game can come to -/
def sR (g : zg) (p : Nat) : Prop := ∀ P : Nat → Prop, P (sFirst g) → (∀ p m, P p → sWork g p < 2 → sCan g p m = true → P (sBeh g p m)) → P p
theorem sR_first (g : zg) : sR g (sFirst g) := fun _ h _ => h
theorem sR_step {g : zg} {p m : Nat} (h : sR g p) (hw : sWork g p < 2) (hc : sCan g p m = true) : sR g (sBeh g p m) := fun P h0 hs => hs p m (h P h0 hs) hw hc
theorem sIn_first {g : zg} (_ : gOk g) : sIn g (sFirst g) := by
  unfold sIn sFirst
  split
  · omega
  · exact Nat.pow_pos (by decide)
theorem sR_in {g : zg} (hg : gOk g) {p : Nat} (h : sR g p) : sIn g p := by
  exact h (sIn g) (sIn_first hg) fun _ _ hp _ hc => sIn_beh hg hp hc
/-- the greatest of f below n -/
def sMx (f : Nat → Nat) : Nat → Nat
  | 0 => 0
  | n + 1 => max (sMx f n) (f n)
theorem sMx_le {f : Nat → Nat} {b : Nat} (h : ∀ i, f i ≤ b) : ∀ n, sMx f n ≤ b
  | 0 => Nat.zero_le _
  | n + 1 => Nat.max_le.mpr ⟨sMx_le h n, h n⟩
theorem sMx_congr {f f' : Nat → Nat} : ∀ n, (∀ i, i < n → f i = f' i) → sMx f n = sMx f' n
  | 0, _ => rfl
  | n + 1, h => by
    show max _ _ = max _ _
    rw [sMx_congr n (fun i hi => h i (by omega)), h n (by omega)]
/-- the worth of a move to its mover, v being what positions are worth to theirs -/
def sWth (g : zg) (v : Nat → Nat) (p m : Nat) : Nat := if sWork g (sBeh g p m) < 2 then 2 - v (sBeh g p m) else if sWork g (sBeh g p m) = 4 then 1 else if sWork g (sBeh g p m) - 2 = sMov g p then 2 else 0
def sVn (g : zg) : Nat → Nat → Nat
  | 0, _ => 0
  | f + 1, p => sMx (fun m => if sCan g p m = true then sWth g (sVn g f) p m else 0) (sMM g)
def sVal (g : zg) (p : Nat) : Nat := sVn g (sDep g p) p
theorem sWth_le (g : zg) (v : Nat → Nat) (p m : Nat) : sWth g v p m ≤ 2 := by
  unfold sWth
  repeat' split
  all_goals omega
theorem sVn_le (g : zg) (f p : Nat) : sVn g f p ≤ 2 := by
  cases f with
  | zero => exact Nat.zero_le _
  | succ f =>
    refine sMx_le (fun i => ?_) _
    have := sWth_le g (sVn g f) p i
    split <;> omega
theorem sVal_le (g : zg) (p : Nat) : sVal g p ≤ 2 := sVn_le g _ _
theorem sDep_no {g : zg} (hg : gOk g) {p : Nat} (h : sDep g p = 0) (m : Nat) : ¬ sCan g p m = true := fun z => by have := sDep_lt hg z; omega
theorem sMx_no {g : zg} (hg : gOk g) {p : Nat} (h : sDep g p = 0) (v : Nat → Nat) (n : Nat) : sMx (fun m => if sCan g p m = true then sWth g v p m else 0) n = 0 := by
  have := sMx_le (f := fun m => if sCan g p m = true then sWth g v p m else 0) (b := 0) (fun i => by rw [if_neg (sDep_no hg h i)]; exact Nat.le_refl _) n
  omega
theorem sVn_fuel {g : zg} (hg : gOk g) (d : Nat) : ∀ p, sDep g p = d → ∀ f, d ≤ f → sVn g f p = sVn g d p := by
  induction d using Nat.strongRecOn with
  | _ d ih =>
    intro p hp f hf
    cases f with
    | zero => rw [show d = 0 by omega]
    | succ f =>
      cases d with
      | zero => exact sMx_no hg hp _ _
      | succ d =>
        refine sMx_congr _ fun m _ => ?_
        by_cases c : sCan g p m = true
        · rw [if_pos c, if_pos c]
          have hd := sDep_lt hg c
          unfold sWth
          rw [ih (sDep g (sBeh g p m)) (by omega) _ rfl f (by omega), ih (sDep g (sBeh g p m)) (by omega) _ rfl d (by omega)]
        · rw [if_neg c, if_neg c]
theorem sVal_eq {g : zg} (hg : gOk g) (p : Nat) : sVal g p = sMx (fun m => if sCan g p m = true then sWth g (sVal g) p m else 0) (sMM g) := by
  cases hd : sDep g p with
  | zero =>
    rw [sMx_no hg hd]
    unfold sVal
    rw [hd]
    rfl
  | succ d =>
    unfold sVal
    rw [hd]
    refine sMx_congr _ fun m _ => ?_
    by_cases c : sCan g p m = true
    · rw [if_pos c, if_pos c]
      have hd2 := sDep_lt hg c
      unfold sWth
      rw [sVn_fuel hg _ _ rfl d (by omega)]
    · rw [if_neg c, if_neg c]
