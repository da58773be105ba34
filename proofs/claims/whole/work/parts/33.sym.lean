-- ===== the turns of a board: a group that moves cells, rows, moves =====
def tW (W H k t : Nat) : Nat := W * (if t / 2 % 2 = 1 then H - 1 - (if t < 4 then k / W else k % W) else (if t < 4 then k / W else k % W)) + (if t % 2 = 1 then W - 1 - (if t < 4 then k % W else k / W) else (if t < 4 then k % W else k / W))
theorem tW_eq (g : zg) (k t : Nat) : sTd g k t = tW (g 1) (g 2) k t := rfl
def tInv (t : Nat) : Nat := if t = 5 then 6 else if t = 6 then 5 else t
def tMul (t u : Nat) : Nat := 4 * ((t / 4 + u / 4) % 2) + 2 * (((if u < 4 then t / 2 % 2 else t % 2) + u / 2 % 2) % 2) + ((if u < 4 then t % 2 else t / 2 % 2) + u % 2) % 2
def tOk (W H t : Nat) : Bool := Nat.blt t 4 || (Nat.blt t 8 && Nat.beq W H)
def tAll (f : Nat → Nat → Bool) : Bool := (List.range 3).all fun a => (List.range 3).all fun b => f (a + 1) (b + 1)
theorem tAll_get {f : Nat → Nat → Bool} (h : tAll f = true) {W H : Nat} (w : 1 ≤ W ∧ W ≤ 3) (v : 1 ≤ H ∧ H ≤ 3) : f W H = true := by
  have a := List.all_eq_true.mp h (W - 1) (List.mem_range.mpr (by omega))
  have b := List.all_eq_true.mp a (H - 1) (List.mem_range.mpr (by omega))
  rw [show W - 1 + 1 = W by omega, show H - 1 + 1 = H by omega] at b
  exact b
theorem rAll {n : Nat} {f : Nat → Bool} (h : (List.range n).all f = true) {k : Nat} (hk : k < n) : f k = true := List.all_eq_true.mp h k (List.mem_range.mpr hk)
theorem tInv_d : tAll (fun W H => (List.range 8).all fun t => !tOk W H t || (List.range (W * H)).all fun k => Nat.beq (tW W H (tW W H k t) (tInv t)) k && Nat.beq (tW W H (tW W H k (tInv t)) t) k) = true := by decide +kernel
theorem tMul_d : tAll (fun W H => (List.range 8).all fun t => !tOk W H t || (List.range 8).all fun u => !tOk W H u || (tOk W H (tMul t u) && (List.range (W * H)).all fun k => Nat.beq (tW W H (tW W H k t) u) (tW W H k (tMul t u)))) = true := by decide +kernel
theorem t0_d : tAll (fun W H => (List.range (W * H)).all fun k => Nat.beq (tW W H k 0) k) = true := by decide +kernel
theorem tMul_inv : ∀ t, t < 8 → tMul t (tInv t) = 0 ∧ tMul (tInv t) t = 0 ∧ tInv t < 8 ∧ (t < 4 → tInv t < 4) ∧ tInv (tInv t) = t := by decide +kernel
/-- a turn that leaves the board as wide and high as it is -/
def gT (g : zg) (t : Nat) : Prop := t < 8 ∧ (4 ≤ t → g 1 = g 2)
theorem gT_ok {g : zg} {t : Nat} (h : gT g t) : tOk (g 1) (g 2) t = true := by
  unfold tOk
  by_cases c : t < 4
  · rw [show Nat.blt t 4 = true from Nat.ble_eq.mpr c]
    rfl
  · rw [show Nat.blt t 8 = true from Nat.ble_eq.mpr h.1, show Nat.beq (g 1) (g 2) = true from (h.2 (by omega)) ▸ Nat.beq_refl _, Bool.and_true, Bool.or_true]
theorem gT_of {g : zg} {t : Nat} (h : tOk (g 1) (g 2) t = true) : gT g t := by
  unfold tOk at h
  rcases Bool.or_eq_true_iff.mp h with z | z
  · have z : t < 4 := Nat.ble_eq.mp z
    exact ⟨by omega, fun w => absurd w (by omega)⟩
  · obtain ⟨z1, z2⟩ := Bool.and_eq_true_iff.mp z
    exact ⟨Nat.ble_eq.mp z1, fun _ => Nat.eq_of_beq_eq_true z2⟩
theorem gT_inv {g : zg} {t : Nat} (h : gT g t) : gT g (tInv t) := by
  obtain ⟨a, b⟩ := h
  have q := tMul_inv t a
  refine ⟨q.2.2.1, fun z => ?_⟩
  by_cases c : t < 4
  · have := q.2.2.2.1 c
    omega
  · exact b (by omega)
theorem gT_turns {g : zg} {t : Nat} (h : t < sTurns g) : gT g t := ⟨by have := sTurns_le g; omega, fun z => sTurns_sq h z⟩
theorem not_or_get {a b : Bool} (h : (!a || b) = true) (ha : a = true) : b = true := by
  rw [ha] at h
  exact h
theorem sTd_inv {g : zg} (hg : gOk g) {t k : Nat} (h : gT g t) (hk : k < sPl g) : sTd g (sTd g k t) (tInv t) = k ∧ sTd g (sTd g k (tInv t)) t = k := by
  have a := rAll (not_or_get (rAll (tAll_get tInv_d hg.2.1 hg.2.2.1) h.1) (gT_ok h)) hk
  obtain ⟨a1, a2⟩ := Bool.and_eq_true_iff.mp a
  exact ⟨Nat.eq_of_beq_eq_true a1, Nat.eq_of_beq_eq_true a2⟩
theorem sTd_mul {g : zg} (hg : gOk g) {t u k : Nat} (h : gT g t) (h2 : gT g u) (hk : k < sPl g) : sTd g (sTd g k t) u = sTd g k (tMul t u) := by
  have a := not_or_get (rAll (not_or_get (rAll (tAll_get tMul_d hg.2.1 hg.2.2.1) h.1) (gT_ok h)) h2.1) (gT_ok h2)
  exact Nat.eq_of_beq_eq_true (rAll (Bool.and_eq_true_iff.mp a).2 hk)
theorem gT_mul {g : zg} (hg : gOk g) {t u : Nat} (h : gT g t) (h2 : gT g u) : gT g (tMul t u) := by
  have a := not_or_get (rAll (not_or_get (rAll (tAll_get tMul_d hg.2.1 hg.2.2.1) h.1) (gT_ok h)) h2.1) (gT_ok h2)
  exact gT_of (Bool.and_eq_true_iff.mp a).1
theorem sTd_0 {g : zg} (hg : gOk g) {k : Nat} (hk : k < sPl g) : sTd g k 0 = k := Nat.eq_of_beq_eq_true (rAll (tAll_get t0_d hg.2.1 hg.2.2.1) hk)
theorem sTd_l {g : zg} (hg : gOk g) {k t : Nat} (h : gT g t) (hk : k < sPl g) : sTd g k t < sPl g := sTd_lt hg hk h.2
theorem sTd_inj {g : zg} (hg : gOk g) {t k j : Nat} (h : gT g t) (hk : k < sPl g) (hj : j < sPl g) (e : sTd g k t = sTd g j t) : k = j := by
  rw [← (sTd_inv hg h hk).1, e, (sTd_inv hg h hj).1]
theorem tMul_turns {g : zg} {t u : Nat} (h : t < sTurns g) (h2 : u < sTurns g) : tMul t u < sTurns g := by
  have key8 : ∀ t, t < 8 → ∀ u, u < 8 → tMul t u < 8 := by decide +kernel
  have key4 : ∀ t, t < 4 → ∀ u, u < 4 → tMul t u < 4 := by decide +kernel
  have key1 : tMul 0 0 = 0 := by decide
  unfold sTurns at h h2 ⊢
  split
  · next c =>
    rw [if_pos c] at h h2
    rw [show t = 0 by omega, show u = 0 by omega, key1]
    decide
  · next c =>
    rw [if_neg c] at h h2
    split
    · next c2 =>
      rw [if_pos c2] at h h2
      rw [show t = 0 by omega, show u = 0 by omega, key1]
      decide
    · next c2 =>
      rw [if_neg c2] at h h2
      split
      · next c3 =>
        rw [if_pos c3] at h h2
        exact key8 t h u h2
      · next c3 =>
        rw [if_neg c3] at h h2
        exact key4 t h u h2
theorem tInv_turns {g : zg} {t : Nat} (h : t < sTurns g) : tInv t < sTurns g := by
  have key8 : ∀ t, t < 8 → tInv t < 8 := by decide +kernel
  have key4 : ∀ t, t < 4 → tInv t < 4 := by decide +kernel
  unfold sTurns at h ⊢
  split
  · next c =>
    rw [if_pos c] at h
    rw [show t = 0 by omega]
    decide
  · next c =>
    rw [if_neg c] at h
    split
    · next c2 =>
      rw [if_pos c2] at h
      rw [show t = 0 by omega]
      decide
    · next c2 =>
      rw [if_neg c2] at h
      split
      · next c3 =>
        rw [if_pos c3] at h
        exact key8 t h
      · next c3 =>
        rw [if_neg c3] at h
        exact key4 t h
-- numbers by their cells
theorem sCell_ext : ∀ n p q, p < 3 ^ n → q < 3 ^ n → (∀ k, k < n → sCell p k = sCell q k) → p = q
  | 0, p, q, hp, hq, _ => by
    rw [Nat.pow_zero] at hp hq
    omega
  | n + 1, p, q, hp, hq, h => by
    rw [Nat.pow_succ] at hp hq
    have a := sCell_ext n (p / 3) (q / 3) (by omega) (by omega) (fun k hk => by rw [← sCell_s, ← sCell_s]; exact h (k + 1) (by omega))
    have b := h 0 (by omega)
    rw [sCell_0, sCell_0] at b
    omega
theorem sCell_lt3 (p k : Nat) : sCell p k < 3 := Nat.mod_lt _ (by decide)
theorem sTPk_cells {g : zg} (hg : gOk g) {p t : Nat} (h : gT g t) : ∀ i, i ≤ sPl g → (∀ k, k < i → sCell (sTPk g p t i) (sTd g k t) = sCell p k) ∧ (∀ j, (∀ k, k < i → sTd g k t ≠ j) → sCell (sTPk g p t i) j = 0) ∧ sTPk g p t i < 3 ^ sPl g ∧ sCnt (sTPk g p t i) (sPl g) = sCnt p i
  | 0, _ => by
    have z (j : Nat) : sCell 0 j = 0 := by unfold sCell; rw [Nat.zero_div]
    have zc : ∀ k, sCnt 0 k = 0 := fun k => by
      induction k with
      | zero => rfl
      | succ k ih => rw [sCnt, ih, z, if_neg (by omega)]
    exact ⟨fun k hk => absurd hk (by omega), fun j _ => z j, Nat.pow_pos (by decide), zc _⟩
  | i + 1, hi => by
    obtain ⟨a1, a2, a3, a4⟩ := sTPk_cells hg (p := p) h i (by omega)
    have hz : sCell (sTPk g p t i) (sTd g i t) = 0 := a2 _ fun k hk e => by
      have := sTd_inj hg h (by omega) (by omega) e
      omega
    have hd := sTd_l hg h (show i < sPl g by omega)
    have e : sTPk g p t (i + 1) = sTPk g p t i + sCell p i * 3 ^ sTd g i t := rfl
    have hs := fun k => sCell_set (sCell p i) (sCell_lt3 p i) (sTd g i t) (sTPk g p t i) k hz
    rw [e]
    refine ⟨fun k hk => ?_, fun j hj => ?_, sCell_lt _ (sCell_lt3 p i) _ _ _ hd a3 hz, ?_⟩
    · rw [hs]
      by_cases c : k = i
      · rw [c, if_pos rfl]
      · rw [if_neg (fun z => c (sTd_inj hg h (by omega) (by omega) z)), a1 k (by omega)]
    · rw [hs, if_neg (fun z => hj i (by omega) z.symm)]
      exact a2 j fun k hk => hj k (by omega)
    · by_cases c : 0 < sCell p i
      · rw [sCnt_set _ (sCell_lt3 p i) c _ _ hz, if_pos hd, a4, sCnt, if_pos c]
      · rw [show sCell p i = 0 by omega, Nat.zero_mul, Nat.add_zero, a4, sCnt, if_neg (by omega)]
        rfl
theorem sTP_cell {g : zg} (hg : gOk g) {p t k : Nat} (h : gT g t) (hk : k < sPl g) : sCell (sTP g p t) (sTd g k t) = sCell p k := by
  unfold sTP
  split
  · next c => rw [c, sTd_0 hg hk]
  · exact (sTPk_cells hg h (sPl g) (Nat.le_refl _)).1 k hk
theorem sTP_lt {g : zg} (hg : gOk g) {p t : Nat} (h : gT g t) (hp : p < 3 ^ sPl g) : sTP g p t < 3 ^ sPl g := by
  unfold sTP
  split
  · exact hp
  · exact (sTPk_cells hg h (sPl g) (Nat.le_refl _)).2.2.1
theorem sTP_cnt {g : zg} (hg : gOk g) {p t : Nat} (h : gT g t) : sCnt (sTP g p t) (sPl g) = sCnt p (sPl g) := by
  unfold sTP
  split
  · rfl
  · exact (sTPk_cells hg h (sPl g) (Nat.le_refl _)).2.2.2
/-- a cell of a turned position -/
theorem sTP_cell' {g : zg} (hg : gOk g) {p t k : Nat} (h : gT g t) (hk : k < sPl g) : sCell (sTP g p t) k = sCell p (sTd g k (tInv t)) := by
  have q := sTP_cell hg (p := p) h (sTd_l hg (gT_inv h) hk)
  rw [(sTd_inv hg h hk).2] at q
  exact q
theorem sTP_mul {g : zg} (hg : gOk g) {p t u : Nat} (h : gT g t) (h2 : gT g u) (hp : p < 3 ^ sPl g) : sTP g (sTP g p t) u = sTP g p (tMul t u) := by
  have h3 := gT_mul hg h h2
  refine sCell_ext (sPl g) _ _ (sTP_lt hg h2 (sTP_lt hg h hp)) (sTP_lt hg h3 hp) fun k hk => ?_
  have hk2 := sTd_l hg (gT_inv h3) hk
  have e1 := (sTd_inv hg h3 hk).2
  rw [← e1, sTP_cell hg h3 hk2, ← sTd_mul hg h h2 hk2, sTP_cell hg h2 (sTd_l hg h hk2), sTP_cell hg h hk2]
theorem sTP_0 (g : zg) (p : Nat) : sTP g p 0 = p := if_pos rfl
theorem sTP_inv {g : zg} (hg : gOk g) {p t : Nat} (h : gT g t) (hp : p < 3 ^ sPl g) : sTP g (sTP g p t) (tInv t) = p := by
  rw [sTP_mul hg h (gT_inv h) hp, (tMul_inv t h.1).1, sTP_0]
-- ===== rows of stones, turned =====
def rX (W pl d i : Nat) : Int := ((pl % W : Nat) : Int) + i * sDx d
def rY (W pl d i : Nat) : Int := ((pl / W : Nat) : Int) + i * sDy d
def rIn (W H pl d i : Nat) : Bool := decide (0 ≤ rX W pl d i ∧ rX W pl d i < W) && decide (0 ≤ rY W pl d i ∧ rY W pl d i < H)
def rPl (W pl d i : Nat) : Nat := W * (rY W pl d i).toNat + (rX W pl d i).toNat
theorem sAt_eq (g : zg) (p s pl d i : Nat) : sAt g p s pl d i = (rIn (g 1) (g 2) pl d i && decide (sCell p (rPl (g 1) pl d i) = s)) := by
  unfold sAt rIn rPl
  rw [Bool.and_assoc]
  rfl
set_option maxRecDepth 100000 in
theorem rTurn_d : tAll (fun W H => (List.range 3).all fun R => (List.range 8).all fun t => !tOk W H t || (List.range (W * H)).all fun pl => (List.range 4).all fun d => !((List.range (R + 1)).all fun i => rIn W H pl d i) || ((List.range (W * H)).any fun pl' => (List.range 4).any fun d' => (List.range (R + 1)).all fun j => rIn W H pl' d' j && (List.range (R + 1)).any fun i => Nat.beq (rPl W pl' d' j) (tW W H (rPl W pl d i) t))) = true := by decide +kernel
theorem rPl_lt {g : zg} {pl d i : Nat} (h : rIn (g 1) (g 2) pl d i = true) : rPl (g 1) pl d i < sPl g := by
  obtain ⟨a, b⟩ := Bool.and_eq_true_iff.mp h
  have a := of_decide_eq_true a
  have b := of_decide_eq_true b
  unfold rPl sPl
  have : g 1 * ((rY (g 1) pl d i).toNat + 1) ≤ g 1 * g 2 := Nat.mul_le_mul_left _ (by omega)
  rw [Nat.mul_succ] at this
  omega
theorem sRow_turn1 {g : zg} (hg : gOk g) {p t s : Nat} (h : gT g t) (hr : sRow g p s = true) : sRow g (sTP g p t) s = true := by
  obtain ⟨pl, hpl, hr⟩ := List.any_eq_true.mp hr
  obtain ⟨d, hd, hr⟩ := List.any_eq_true.mp hr
  have hpl := List.mem_range.mp hpl
  have hd := List.mem_range.mp hd
  have hr3 := hg.2.2.2.1
  have hat : ∀ i, i < g 3 → sAt g p s pl d i = true := fun i hi => List.all_eq_true.mp hr i (List.mem_range.mpr hi)
  have a := rAll (rAll (tAll_get rTurn_d hg.2.1 hg.2.2.1) (show g 3 - 1 < 3 by omega)) h.1
  have a := rAll (rAll (not_or_get a (gT_ok h)) hpl) hd
  rw [show g 3 - 1 + 1 = g 3 by omega] at a
  have a := not_or_get a (List.all_eq_true.mpr fun i hi => by
    have q := hat i (List.mem_range.mp hi)
    rw [sAt_eq] at q
    exact (Bool.and_eq_true_iff.mp q).1)
  obtain ⟨pl', hpl', a⟩ := List.any_eq_true.mp a
  obtain ⟨d', hd', a⟩ := List.any_eq_true.mp a
  refine List.any_eq_true.mpr ⟨pl', hpl', List.any_eq_true.mpr ⟨d', hd', List.all_eq_true.mpr fun j hj => ?_⟩⟩
  obtain ⟨b1, b2⟩ := Bool.and_eq_true_iff.mp (List.all_eq_true.mp a j hj)
  obtain ⟨i, hi, b2⟩ := List.any_eq_true.mp b2
  have q := hat i (List.mem_range.mp hi)
  rw [sAt_eq] at q
  obtain ⟨q1, q2⟩ := Bool.and_eq_true_iff.mp q
  rw [sAt_eq, b1, Nat.eq_of_beq_eq_true b2, Bool.true_and]
  have e := sTP_cell hg (p := p) h (rPl_lt q1)
  rw [tW_eq] at e
  rw [e]
  exact q2
theorem sRow_turn {g : zg} (hg : gOk g) {p t s : Nat} (h : gT g t) (hp : p < 3 ^ sPl g) : sRow g (sTP g p t) s = sRow g p s := by
  cases c : sRow g p s with
  | true => exact sRow_turn1 hg h c
  | false =>
    cases c2 : sRow g (sTP g p t) s with
    | false => rfl
    | true =>
      have q := sRow_turn1 hg (gT_inv h) c2
      rw [sTP_inv hg h hp, c] at q
      cases q
-- ===== positions, turned =====
theorem sMov_turn {g : zg} (hg : gOk g) (hb : g 0 = 0) {p t : Nat} (h : gT g t) : sMov g (sTP g p t) = sMov g p := by
  unfold sMov
  rw [if_neg (by omega), if_neg (by omega), sTP_cnt hg h]
theorem sStn_turn {g : zg} (hg : gOk g) (hb : g 0 = 0) {p t : Nat} (h : gT g t) : sStn g (sTP g p t) = sStn g p := by
  unfold sStn
  rw [if_neg (by omega), if_neg (by omega), sTP_cnt hg h]
theorem sWork_turn {g : zg} (hg : gOk g) (hb : g 0 = 0) {p t : Nat} (h : gT g t) (hp : p < 3 ^ sPl g) : sWork g (sTP g p t) = sWork g p := by
  have h0 : ¬ g 0 = 1 := by omega
  unfold sWork
  rw [if_neg h0, if_neg h0, sMov_turn hg hb h, sStn_turn hg hb h, sRow_turn hg h hp]
theorem sMM_bd {g : zg} (hb : g 0 = 0) : sMM g = sPl g := if_neg (by omega)
theorem sCan_turn {g : zg} (hg : gOk g) (hb : g 0 = 0) {p t m : Nat} (h : gT g t) (hm : m < sPl g) : sCan g (sTP g p t) (sTd g m t) = sCan g p m := by
  unfold sCan
  rw [sMM_bd hb, decide_eq_true (sTd_l hg h hm), decide_eq_true hm, if_neg (by omega), if_neg (by omega), sTP_cell hg h hm]
theorem sBeh_turn {g : zg} (hg : gOk g) (hb : g 0 = 0) {p t m : Nat} (h : gT g t) (hp : p < 3 ^ sPl g) (hc : sCan g p m = true) : sBeh g (sTP g p t) (sTd g m t) = sTP g (sBeh g p m) t := by
  obtain ⟨hc0, hm⟩ := sCan_board hc hb
  have hc2 : sCan g (sTP g p t) (sTd g m t) = true := by rw [sCan_turn hg hb h hm]; exact hc
  obtain ⟨hd0, hm2⟩ := sCan_board hc2 hb
  have hmv := sMov_le g p
  have inn : sIn g p := by unfold sIn; rw [if_neg (by omega)]; exact hp
  have inn2 : sIn g (sTP g p t) := by unfold sIn; rw [if_neg (by omega)]; exact sTP_lt hg h hp
  have l1 := sIn_beh hg inn hc
  have l2 := sIn_beh hg inn2 hc2
  unfold sIn at l1 l2
  rw [if_neg (by omega)] at l1 l2
  refine sCell_ext (sPl g) _ _ l2 (sTP_lt hg h l1) fun k hk => ?_
  have e1 : sBeh g (sTP g p t) (sTd g m t) = sTP g p t + (sMov g p + 1) * 3 ^ sTd g m t := by unfold sBeh; rw [if_neg (by omega), sMov_turn hg hb h]
  have e2 : sBeh g p m = p + (sMov g p + 1) * 3 ^ m := by unfold sBeh; rw [if_neg (by omega)]
  have hki := sTd_l hg (gT_inv h) hk
  rw [e1, e2, sCell_set _ (by omega) _ _ _ hd0, sTP_cell' hg h hk, sTP_cell' hg h hk, sCell_set _ (by omega) _ _ _ hc0]
  by_cases c : k = sTd g m t
  · rw [if_pos c, if_pos (by rw [c]; exact (sTd_inv hg h hm).1)]
  · rw [if_neg c, if_neg (fun z => c (by rw [← z]; exact (sTd_inv hg h hk).2.symm))]
theorem sTP_first {g : zg} (hg : gOk g) (hb : g 0 = 0) {t : Nat} (h : gT g t) : sTP g (sFirst g) t = sFirst g := by
  have e : sFirst g = 0 := by unfold sFirst; rw [if_neg (by omega)]
  rw [e]
  have hp : (0 : Nat) < 3 ^ sPl g := Nat.pow_pos (by decide)
  refine sCell_ext (sPl g) _ _ (sTP_lt hg h hp) hp fun k hk => ?_
  rw [sTP_cell' hg h hk]
  unfold sCell
  rw [Nat.zero_div, Nat.zero_div]
theorem sR_lt3 {g : zg} (hg : gOk g) (hb : g 0 = 0) {p : Nat} (h : sR g p) : p < 3 ^ sPl g := by
  have q := sR_in hg h
  unfold sIn at q
  rw [if_neg (by omega)] at q
  exact q
theorem sR_turn {g : zg} (hg : gOk g) (hb : g 0 = 0) {p t : Nat} (h : gT g t) (hr : sR g p) : sR g (sTP g p t) := by
  refine (hr (fun x => sR g x ∧ sR g (sTP g x t)) ⟨sR_first g, by rw [sTP_first hg hb h]; exact sR_first g⟩ fun x m hx hw hc => ⟨sR_step hx.1 hw hc, ?_⟩).2
  have hx3 := sR_lt3 hg hb hx.1
  obtain ⟨-, hm⟩ := sCan_board hc hb
  rw [← sBeh_turn hg hb h hx3 hc]
  exact sR_step hx.2 (by rw [sWork_turn hg hb h hx3]; exact hw) (by rw [sCan_turn hg hb h hm]; exact hc)
theorem sDep_turn {g : zg} (hg : gOk g) (hb : g 0 = 0) {p t : Nat} (h : gT g t) : sDep g (sTP g p t) = sDep g p := by
  unfold sDep
  rw [if_neg (by omega), if_neg (by omega), sTP_cnt hg h]
-- a turn of the game's, whatever the game
theorem sTurns_1 {g : zg} (c : g 0 = 1) : sTurns g = 1 := by
  unfold sTurns
  rw [if_pos c]
  split <;> rfl
theorem gR_turn {g : zg} (hg : gOk g) {p t : Nat} (ht : t < sTurns g) (hr : sR g p) : sR g (sTP g p t) ∧ sWork g (sTP g p t) = sWork g p ∧ sStn g (sTP g p t) = sStn g p ∧ sMov g (sTP g p t) = sMov g p := by
  rcases g0_01 hg with c | c
  · have h := gT_turns ht
    exact ⟨sR_turn hg c h hr, sWork_turn hg c h (sR_lt3 hg c hr), sStn_turn hg c h, sMov_turn hg c h⟩
  · rw [sTurns_1 c] at ht
    rw [show t = 0 by omega, sTP_0]
    exact ⟨hr, rfl, rfl, rfl⟩
theorem gR_box {g : zg} (hg : gOk g) {p : Nat} (hr : sR g p) : sR g (sBox g p) ∧ sWork g (sBox g p) = sWork g p ∧ sStn g (sBox g p) = sStn g p ∧ sMov g (sBox g p) = sMov g p := gR_turn hg (sTurnOf_lt g p) hr
theorem sTO_min (g : zg) (p : Nat) : ∀ n t, t < n → sTP g p (sTO g p n) ≤ sTP g p t
  | 0, t, h => absurd h (Nat.not_lt_zero _)
  | n + 1, t, h => by
    rw [sTO]
    by_cases c : n = 0
    · rw [if_pos c, show t = 0 by omega]
      exact Nat.le_refl _
    · rw [if_neg c]
      by_cases c2 : sTP g p n < sTP g p (sTO g p n)
      · rw [if_pos c2]
        by_cases c3 : t = n
        · rw [c3]
          exact Nat.le_refl _
        · have := sTO_min g p n t (by omega)
          omega
      · rw [if_neg c2]
        by_cases c3 : t = n
        · rw [c3]
          omega
        · exact sTO_min g p n t (by omega)
theorem sBox_min {g : zg} {p t : Nat} (ht : t < sTurns g) : sBox g p ≤ sTP g p t := sTO_min g p _ t ht
theorem gTP_mul {g : zg} (hg : gOk g) {p t u : Nat} (ht : t < sTurns g) (hu : u < sTurns g) (hr : sR g p) : sTP g (sTP g p t) u = sTP g p (tMul t u) := by
  rcases g0_01 hg with c | c
  · exact sTP_mul hg (gT_turns ht) (gT_turns hu) (sR_lt3 hg c hr)
  · rw [sTurns_1 c] at ht hu
    rw [show t = 0 by omega, show u = 0 by omega, sTP_0, sTP_0, show tMul 0 0 = 0 by decide, sTP_0]
theorem gTP_inv {g : zg} (hg : gOk g) {p t : Nat} (ht : t < sTurns g) (hr : sR g p) : sTP g (sTP g p t) (tInv t) = p := by
  rw [gTP_mul hg ht (tInv_turns ht) hr, (tMul_inv t (gT_turns ht).1).1, sTP_0]
theorem sBox_turn {g : zg} (hg : gOk g) {p t : Nat} (ht : t < sTurns g) (hr : sR g p) : sBox g (sTP g p t) = sBox g p := by
  have h1 : sBox g p ≤ sBox g (sTP g p t) := by
    show _ ≤ sTP g (sTP g p t) (sTurnOf g (sTP g p t))
    rw [gTP_mul hg ht (sTurnOf_lt g _) hr]
    exact sBox_min (tMul_turns ht (sTurnOf_lt g _))
  have h2 : sBox g (sTP g p t) ≤ sBox g p := by
    have e : sBox g p = sTP g (sTP g p t) (tMul (tInv t) (sTurnOf g p)) := by
      have a := gTP_mul hg (tInv_turns ht) (sTurnOf_lt g p) (gR_turn hg ht hr).1
      rw [gTP_inv hg ht hr] at a
      exact a
    rw [e]
    exact sBox_min (tMul_turns (tInv_turns ht) (sTurnOf_lt g p))
  omega
theorem sBox_box {g : zg} (hg : gOk g) {p : Nat} (hr : sR g p) : sBox g (sBox g p) = sBox g p := sBox_turn hg (sTurnOf_lt g p) hr
-- moves of a box and of its positions
theorem sLed_bd {g : zg} (hg : gOk g) (hb : g 0 = 0) {m t : Nat} (hm : m < sPl g) : sLed g m t = sTd g m t := by
  unfold sLed
  split
  · next c => rw [c, sTd_0 hg hm]
  · rfl
theorem sLed_can {g : zg} (hg : gOk g) {p m t : Nat} (ht : t < sTurns g) (hm : m < sMM g) : sCan g (sTP g p t) (sLed g m t) = sCan g p m := by
  rcases g0_01 hg with c | c
  · have hm2 : m < sPl g := by rw [← sMM_bd c]; exact hm
    rw [sLed_bd hg c hm2, sCan_turn hg c (gT_turns ht) hm2]
  · rw [sTurns_1 c] at ht
    rw [show t = 0 by omega, sTP_0]
    rfl
theorem sLed_beh {g : zg} (hg : gOk g) {p m t : Nat} (ht : t < sTurns g) (hr : sR g p) (hc : sCan g p m = true) : sBeh g (sTP g p t) (sLed g m t) = sTP g (sBeh g p m) t := by
  rcases g0_01 hg with c | c
  · obtain ⟨-, hm⟩ := sCan_board hc c
    rw [sLed_bd hg c hm, sBeh_turn hg c (gT_turns ht) (sR_lt3 hg c hr) hc]
  · rw [sTurns_1 c] at ht
    rw [show t = 0 by omega, sTP_0, sTP_0]
    rfl
theorem sLed_inv {g : zg} (hg : gOk g) {m t : Nat} (ht : t < sTurns g) (hm : m < sMM g) : sLed g (sLed g m t) (tInv t) = m ∧ sLed g (sLed g m (tInv t)) t = m := by
  rcases g0_01 hg with c | c
  · have hm2 : m < sPl g := by rw [← sMM_bd c]; exact hm
    have q := sTd_inv hg (gT_turns ht) hm2
    have l1 := sTd_l hg (gT_turns ht) hm2
    have l2 := sTd_l hg (gT_inv (gT_turns ht)) hm2
    rw [sLed_bd hg c hm2, sLed_bd hg c l1, sLed_bd hg c hm2, sLed_bd hg c l2]
    exact q
  · rw [sTurns_1 c] at ht
    rw [show t = 0 by omega]
    exact ⟨rfl, rfl⟩
theorem sLed_mul {g : zg} (hg : gOk g) {m t u : Nat} (ht : t < sTurns g) (hu : u < sTurns g) (hm : m < sMM g) : sLed g (sLed g m t) u = sLed g m (tMul t u) := by
  rcases g0_01 hg with c | c
  · have hm2 : m < sPl g := by rw [← sMM_bd c]; exact hm
    rw [sLed_bd hg c hm2, sLed_bd hg c (sTd_l hg (gT_turns ht) hm2), sLed_bd hg c hm2]
    exact sTd_mul hg (gT_turns ht) (gT_turns hu) hm2
  · rw [sTurns_1 c] at ht hu
    rw [show t = 0 by omega, show u = 0 by omega]
    rfl
theorem sMvk_find {g : zg} {p k : Nat} : ∀ n, (∃ i, i < n ∧ sLed g i (sTurnOf g p) = k) → ∃ m, m < n ∧ sMvk g p k n = some m ∧ sLed g m (sTurnOf g p) = k
  | 0, ⟨i, hi, _⟩ => absurd hi (Nat.not_lt_zero _)
  | n + 1, ⟨i, hi, he⟩ => by
    rw [sMvk]
    by_cases c : ∃ i, i < n ∧ sLed g i (sTurnOf g p) = k
    · obtain ⟨m, h1, h2, h3⟩ := sMvk_find n c
      rw [h2]
      exact ⟨m, by omega, rfl, h3⟩
    · have e : i = n := by
        by_cases d : i = n
        · exact d
        · exact absurd ⟨i, by omega, he⟩ c
      subst e
      have hn : sMvk g p k i = none := by
        cases q : sMvk g p k i with
        | none => rfl
        | some m =>
          exfalso
          have key : ∀ j, ∀ m, sMvk g p k j = some m → m < j ∧ sLed g m (sTurnOf g p) = k := by
            intro j
            induction j with
            | zero => intro m hm; cases hm
            | succ j ih =>
              intro m hm
              rw [sMvk] at hm
              cases q2 : sMvk g p k j with
              | some m2 =>
                rw [q2] at hm
                have hm : some m2 = some m := hm
                injection hm with hm
                subst hm
                have := ih m2 q2
                exact ⟨by omega, this.2⟩
              | none =>
                rw [q2] at hm
                have hm : (if sLed g j (sTurnOf g p) = k then some j else none) = some m := hm
                split at hm
                · next c2 => cases hm; exact ⟨by omega, c2⟩
                · cases hm
          exact c ⟨m, key i m q⟩
      rw [hn]
      refine ⟨i, by omega, ?_, he⟩
      show (if sLed g i (sTurnOf g p) = k then some i else none) = some i
      rw [if_pos he]
theorem sMvOf_ok {g : zg} (hg : gOk g) {p k : Nat} (hk : k < sMM g) : ∃ m, sMvOf g p k = some m ∧ m < sMM g ∧ sLed g m (sTurnOf g p) = k := by
  have ht := sTurnOf_lt g p
  obtain ⟨m, h1, h2, h3⟩ := sMvk_find (g := g) (p := p) (k := k) (sMM g) ⟨sLed g k (tInv (sTurnOf g p)), sLed_lt hg hk (tInv_turns ht), (sLed_inv hg ht hk).2⟩
  exact ⟨m, h2, h1, h3⟩
/-- the move of p that the box's move k is -/
def sMv (g : zg) (p k : Nat) : Nat := (sMvOf g p k).getD 0
theorem sMv_ok {g : zg} (hg : gOk g) {p k : Nat} (hk : k < sMM g) : sMvOf g p k = some (sMv g p k) ∧ sMv g p k < sMM g ∧ sLed g (sMv g p k) (sTurnOf g p) = k := by
  obtain ⟨m, h1, h2, h3⟩ := sMvOf_ok hg (p := p) hk
  unfold sMv
  rw [h1]
  exact ⟨rfl, h2, h3⟩
theorem sMv_eq {g : zg} (hg : gOk g) {p k : Nat} (hk : k < sMM g) : sMv g p k = sLed g k (tInv (sTurnOf g p)) := by
  obtain ⟨-, h2, h3⟩ := sMv_ok hg (p := p) hk
  have q := (sLed_inv hg (sTurnOf_lt g p) h2).1
  rw [h3] at q
  exact q.symm
theorem sMv_can {g : zg} (hg : gOk g) {p k : Nat} (hc : sCan g (sBox g p) k = true) : sCan g p (sMv g p k) = true := by
  have hk := sCan_lt hc
  obtain ⟨-, h2, h3⟩ := sMv_ok hg (p := p) hk
  rw [← sLed_can hg (sTurnOf_lt g p) h2, h3]
  exact hc
-- a move at every position that is not over
theorem sCnt_full (p : Nat) : ∀ n, (∀ k, k < n → sCell p k ≠ 0) → sCnt p n = n
  | 0, _ => rfl
  | n + 1, h => by
    rw [sCnt, sCnt_full p n (fun k hk => h k (by omega)), if_pos (by have := h n (by omega); omega)]
theorem sCan_some {g : zg} (hg : gOk g) {p : Nat} (hw : sWork g p < 2) : ∃ m, sCan g p m = true := by
  rcases g0_01 hg with c | c
  · have hns : sStn g p ≠ sPl g := by
      intro z
      have := sMov_le g p
      unfold sWork at hw
      rw [if_neg (by omega), if_pos z] at hw
      split at hw <;> omega
    rcases Classical.em (∃ m, m < sPl g ∧ sCell p m = 0) with z | z
    · obtain ⟨m, h1, h2⟩ := z
      refine ⟨m, ?_⟩
      unfold sCan
      rw [sMM_bd c, decide_eq_true h1, if_neg (by omega), decide_eq_true h2]
      rfl
    · exfalso
      apply hns
      unfold sStn
      rw [if_neg (by omega)]
      exact sCnt_full p _ fun k hk e => z ⟨k, hk, e⟩
  · have h0 : 0 < p / 2 := by
      have := sMov_le g p
      unfold sWork at hw
      rw [if_pos c] at hw
      by_cases z : 0 < p / 2
      · exact z
      · rw [if_neg z] at hw
        omega
    refine ⟨0, ?_⟩
    have := sMM_pos hg
    unfold sCan
    rw [decide_eq_true (by omega), if_pos c, decide_eq_true (by omega)]
    rfl
