-- ===== how many boxes a side can have: of the game's positions =====
theorem sK1_set {v t m p : Nat} (ht : t < 3) (hv : v ≠ 0) (h : sCell p m = 0) : ∀ n, sK1 v (p + t * 3 ^ m) n = sK1 v p n + (if m < n ∧ v = t then 1 else 0)
  | 0 => by rw [if_neg (by omega)]; rfl
  | n + 1 => by
    rw [sK1, sK1, sK1_set ht hv h n, sCell_set t ht m p n h]
    by_cases c : n = m
    · subst c
      rw [if_pos rfl, if_neg (by omega), h]
      have e0 : Nat.beq 0 v = false := zbeq_f (fun z => hv z.symm)
      rw [e0]
      by_cases d : v = t
      · rw [if_pos ⟨by omega, d⟩, d, Nat.beq_refl]
        rfl
      · rw [if_neg (fun z => d z.2), zbeq_f (fun z => d z.symm)]
        rfl
    · rw [if_neg c]
      by_cases d : m < n ∧ v = t
      · rw [if_pos d, if_pos ⟨by omega, d.2⟩]
        omega
      · rw [if_neg d, if_neg (fun z => d ⟨by omega, z.2⟩)]
        omega
theorem sRow_tri {g : zg} {x v pl d a b c : Nat} (hg : gOk g) (h1 : g 1 = 3) (h2 : g 2 = 3) (hpl : pl < 9) (hd : d < 4) (hi : ∀ i, i < 3 → rIn 3 3 pl d i = true) (ha : rPl 3 pl d 0 = a) (hb : rPl 3 pl d 1 = b) (hc : rPl 3 pl d 2 = c) (h : tri x v a b c = true) : sRow g x v = true := by
  unfold tri at h
  obtain ⟨t1, h⟩ := Bool.and_eq_true_iff.mp h
  obtain ⟨t2, t3⟩ := Bool.and_eq_true_iff.mp h
  have h3 := hg.2.2.2.1
  unfold sRow
  rw [List.any_eq_true]
  refine ⟨pl, List.mem_range.mpr (by unfold sPl; rw [h1, h2]; exact hpl), ?_⟩
  rw [List.any_eq_true]
  refine ⟨d, List.mem_range.mpr hd, ?_⟩
  unfold sRay
  rw [List.all_eq_true]
  intro i hi'
  have hi' := List.mem_range.mp hi'
  rw [sAt_eq, h1, h2, hi i (by omega)]
  show decide _ = true
  refine decide_eq_true ?_
  rcases (show i = 0 ∨ i = 1 ∨ i = 2 by omega) with rfl | rfl | rfl
  · rw [ha]
    exact Nat.eq_of_beq_eq_true t1
  · rw [hb]
    exact Nat.eq_of_beq_eq_true t2
  · rw [hc]
    exact Nat.eq_of_beq_eq_true t3
theorem row3_row {g : zg} {x v : Nat} (hg : gOk g) (h1 : g 1 = 3) (h2 : g 2 = 3) (h : row3 x v = true) : sRow g x v = true := by
  unfold row3 at h
  simp only [Bool.or_eq_true] at h
  rcases h with h | h | h | h | h | h | h | h
  · exact sRow_tri hg h1 h2 (pl := 0) (d := 0) (by decide) (by decide) (by decide) rfl rfl rfl h
  · exact sRow_tri hg h1 h2 (pl := 3) (d := 0) (by decide) (by decide) (by decide) rfl rfl rfl h
  · exact sRow_tri hg h1 h2 (pl := 6) (d := 0) (by decide) (by decide) (by decide) rfl rfl rfl h
  · exact sRow_tri hg h1 h2 (pl := 0) (d := 1) (by decide) (by decide) (by decide) rfl rfl rfl h
  · exact sRow_tri hg h1 h2 (pl := 1) (d := 1) (by decide) (by decide) (by decide) rfl rfl rfl h
  · exact sRow_tri hg h1 h2 (pl := 2) (d := 1) (by decide) (by decide) (by decide) rfl rfl rfl h
  · exact sRow_tri hg h1 h2 (pl := 0) (d := 2) (by decide) (by decide) (by decide) rfl rfl rfl h
  · exact sRow_tri hg h1 h2 (pl := 6) (d := 3) (by decide) (by decide) (by decide) rfl rfl rfl h
/-- of reached positions: stones in turn, and no row of the mover's -/
theorem sR_even {g : zg} (hg : gOk g) (hb : g 0 = 0) {x : Nat} (hx : sR g x) : sR g x ∧ sK1 1 x (sPl g) = sK1 2 x (sPl g) + sMov g x ∧ sRow g x (sMov g x + 1) = false := by
  refine hx (fun y => sR g y ∧ sK1 1 y (sPl g) = sK1 2 y (sPl g) + sMov g y ∧ sRow g y (sMov g y + 1) = false) ?_ ?_
  · have e0 : sFirst g = 0 := by unfold sFirst; rw [if_neg (by omega)]
    have m0 : sMov g 0 = 0 := by unfold sMov; rw [if_neg (by omega), sCnt_0n]
    have k0 : ∀ v n, v ≠ 0 → sK1 v 0 n = 0 := by
      intro v n hv
      induction n with
      | zero => rfl
      | succ n ih => rw [sK1, ih, sCell_0n, zbeq_f (fun z => hv z.symm)]; rfl
    refine ⟨sR_first g, ?_, ?_⟩
    · rw [e0, m0, k0 1 _ (by decide), k0 2 _ (by decide)]
    · rw [e0, m0, Bool.eq_false_iff]
      intro z
      unfold sRow at z
      obtain ⟨pl, -, z⟩ := List.any_eq_true.mp z
      obtain ⟨d, -, z⟩ := List.any_eq_true.mp z
      have h3 := hg.2.2.2.1.1
      have z := List.all_eq_true.mp z 0 (List.mem_range.mpr (by omega))
      unfold sAt at z
      have z := of_decide_eq_true (Bool.and_eq_true_iff.mp (Bool.and_eq_true_iff.mp z).2).2
      rw [sCell_0n] at z
      omega
  · intro p m ⟨hr, hk, hrow⟩ hw hc
    have hmv := sMov_le g p
    have em := sMov_beh hg hc
    obtain ⟨c1, c2⟩ := sCan_board hc hb
    have e : sBeh g p m = p + (sMov g p + 1) * 3 ^ m := by unfold sBeh; rw [if_neg (by omega)]
    refine ⟨sR_step hr hw hc, ?_, ?_⟩
    · rw [em, e, sK1_set (by omega) (by decide) c1, sK1_set (by omega) (by decide) c1, hk]
      rcases (show sMov g p = 0 ∨ sMov g p = 1 by omega) with z | z
      · rw [z, if_pos ⟨c2, rfl⟩, if_neg (by omega)]
      · rw [z, if_neg (by omega), if_pos ⟨c2, rfl⟩]
    · rw [em, show 1 - sMov g p + 1 = 2 - sMov g p by omega]
      have hw2 : sRow g p (1 - sMov g p + 1) = false := by
        rw [Bool.eq_false_iff]
        intro z
        unfold sWork at hw
        rw [if_neg (by omega), if_pos z] at hw
        omega
      rw [show 1 - sMov g p + 1 = 2 - sMov g p by omega] at hw2
      rw [← hw2]
      have hat : ∀ pl d i, sAt g (sBeh g p m) (2 - sMov g p) pl d i = sAt g p (2 - sMov g p) pl d i := by
        intro pl d i
        rw [sAt_eq, sAt_eq, e, sCell_set _ (by omega) _ _ _ c1]
        congr 1
        apply decide_eq_decide.mpr
        by_cases w : rPl (g 1) pl d i = m
        · rw [if_pos w, w, c1]
          constructor <;> intro z <;> omega
        · rw [if_neg w]
      have hat2 : ∀ pl d, sAt g (sBeh g p m) (2 - sMov g p) pl d = sAt g p (2 - sMov g p) pl d := fun pl d => funext (hat pl d)
      unfold sRow sRay
      simp only [hat2]
/-- a box of a side -/
noncomputable def sBxB (g : zg) (s x : Nat) : Bool := @decide (sR g x ∧ sWork g x = s ∧ sBox g x = x) (Classical.propDecidable _)
theorem sBxB_t {g : zg} {s x : Nat} : sBxB g s x = true ↔ sR g x ∧ sWork g x = s ∧ sBox g x = x := by
  unfold sBxB
  exact @decide_eq_true_iff _ (Classical.propDecidable _)
theorem sBxB_n {g : zg} (hg : gOk g) {s : Nat} (hs : s ≤ 1) : sCB (sBxB g s) 19683 ≤ 2423 := by
  by_cases c : g 0 = 1
  · refine Nat.le_trans (sCB_bd (b := 42) _ fun x _ hx => ?_) (by decide)
    have := sIn_sz (sR_in hg (sBxB_t.mp hx).1)
    have h5 := hg.2.2.2.2.2.1
    unfold sSz at this
    rw [if_pos c] at this
    omega
  · have hb : g 0 = 0 := by have := g0_01 hg; omega
    by_cases d : sPl g ≤ 7
    · refine Nat.le_trans (sCB_bd (b := 2187) _ fun x _ hx => ?_) (by decide)
      have h := sIn_sz (sR_in hg (sBxB_t.mp hx).1)
      unfold sSz at h
      rw [if_neg c] at h
      exact Nat.lt_of_lt_of_le h (Nat.pow_le_pow_right (n := 3) (j := 7) (by decide) d)
    · have h9 : g 1 = 3 ∧ g 2 = 3 := by
        obtain ⟨-, w, v, -⟩ := hg
        unfold sPl at d
        have key : ∀ a, a < 4 → ∀ b, b < 4 → ¬ a * b ≤ 7 → a = 3 ∧ b = 3 := by decide
        exact key _ (by omega) _ (by omega) d
      have e9 : sPl g = 9 := by unfold sPl; rw [h9.1, h9.2]
      refine Nat.le_trans (sCB_mono _ fun x _ hx => ?_) (cOk3_n hs)
      obtain ⟨hr, hw, -⟩ := sBxB_t.mp hx
      obtain ⟨-, k1, k2⟩ := sR_even hg hb hr
      have hmv : sMov g x = s := by rw [← sWork_mov (by omega), hw]
      have k3 : sRow g x (1 - sMov g x + 1) = false := by
        rw [Bool.eq_false_iff]
        intro z
        unfold sWork at hw
        rw [if_neg c, if_pos z] at hw
        omega
      rw [hmv] at k1 k2 k3
      rw [e9] at k1
      unfold cOk3
      rw [k1, Nat.beq_refl]
      have no : ∀ v, sRow g x v = false → row3 x v = false := fun v hv => by
        rw [Bool.eq_false_iff]
        intro z
        rw [row3_row hg h9.1 h9.2 z] at hv
        cases hv
      rcases (show s = 0 ∨ s = 1 by omega) with rfl | rfl
      · rw [no 1 k2, no 2 k3]
        rfl
      · rw [no 1 k3, no 2 k2]
        rfl
