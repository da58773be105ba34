-- ===== the class: the table's cells =====
/-- the class's cells of the game -/
def kG (g : zg) (I : zI) : Prop := gOk g ∧ I 45 3 = (if g 0 = 1 then nI (g 5) else 0) ∧ I 45 5 = nI (g 4) ∧ (g 0 = 0 → I 45 0 = nI (g 1) ∧ I 45 1 = nI (g 2) ∧ I 45 2 = nI (g 3)) ∧ (g 0 = 1 → I 45 4 = nI (g 6) ∧ kDk (I 45 0) ∧ kDk (I 45 1) ∧ kDk (I 45 2))
theorem kG_of {g : zg} {I I' : zI} (h : kG g I) (e : I' 45 = I 45) : kG g I' := by
  unfold kG
  rw [e]
  exact h
theorem khp {g : zg} {I : zI} {A B : Prop} (hg : kG g I) (f : g 0 = 0 → A) (f2 : g 0 = 1 → B) : (I 45 3 ≤ 0 → A) ∧ (¬ I 45 3 ≤ 0 → B) := by
  rw [hg.2.1]
  obtain ⟨h0, -, -, -, -, h5, -⟩ := hg.1
  by_cases d : g 0 = 1
  · rw [if_pos d]
    exact ⟨fun z => absurd z (Int32.not_le.mpr ((nI_ltI (a := 0) (by omega) (by omega)).mpr (by omega))), fun _ => f2 d⟩
  · rw [if_neg d]
    exact ⟨fun _ => f (by omega), fun z => absurd (by decide) z⟩
theorem khpg {g : zg} {I : zI} {A B : Prop} (hg : kG g I) (f : g 0 = 0 → A) (f2 : g 0 = 1 → B) : (0 < I 45 3 → B) ∧ (¬ 0 < I 45 3 → A) := ⟨fun z => (khp hg f f2).2 (Int32.not_le.mpr z), fun z => (khp hg f f2).1 (Int32.not_lt.mp z)⟩
theorem sWork_mov {g : zg} {p : Nat} (h : sWork g p < 2) : sWork g p = sMov g p := by
  unfold sWork at h ⊢
  split
  · rename_i c
    rw [if_pos c] at h
    split
    · rfl
    · rename_i c2
      rw [if_neg c2] at h
      omega
  · rename_i c
    rw [if_neg c] at h
    split
    · rename_i c2
      rw [if_pos c2] at h
      omega
    · rename_i c2
      rw [if_neg c2] at h
      split
      · rename_i c3
        rw [if_pos c3] at h
        omega
      · rfl
theorem sPc_sFB (f : Nat → Bool) : sPc (sFB f 9) = sCB f 9 := by
  have key : ∀ n, n ≤ 9 → sCB (fun k => decide (sFB f 9 / 2 ^ k % 2 = 1)) n = sCB f n := by
    intro n
    induction n with
    | zero => intro _; rfl
    | succ n ih =>
      intro hn
      rw [sCB, sCB, ih (by omega), sFB_bit f 9 n (by omega)]
      cases f n <;> rfl
  exact key 9 (Nat.le_refl _)
theorem sFree {g : zg} (hg : gOk g) (hb : g 0 = 0) (p : Nat) : sCB (sCan g p) 9 = sPl g - sCnt p (sPl g) := by
  have hp := sPl_pos hg
  have key : ∀ n, sCB (sCan g p) n + sCnt p (min n (sPl g)) = min n (sPl g) := by
    intro n
    induction n with
    | zero => rw [Nat.zero_min]; rfl
    | succ n ih =>
      rw [sCB]
      by_cases d : n < sPl g
      · have e1 : min (n + 1) (sPl g) = n + 1 := by omega
        have e2 : min n (sPl g) = n := by omega
        rw [e2] at ih
        rw [e1, sCnt]
        have e3 : sCan g p n = decide (sCell p n = 0) := by
          unfold sCan sMM
          rw [if_neg (by omega), if_neg (by omega), decide_eq_true d]
          rfl
        rw [e3]
        by_cases d2 : sCell p n = 0
        · rw [if_pos (decide_eq_true d2), if_neg (by omega)]
          omega
        · rw [if_neg (fun z => d2 (of_decide_eq_true z)), if_pos (by omega)]
          omega
      · have e1 : min (n + 1) (sPl g) = min n (sPl g) := by omega
        have e3 : sCan g p n = false := by
          unfold sCan sMM
          rw [if_neg (by omega), decide_eq_false d]
          rfl
        rw [e1, e3]
        exact ih
  have := key 9
  rw [show min 9 (sPl g) = sPl g by omega] at this
  omega
/-- how many numbers of positions -/
def sSz (g : zg) : Nat := if g 0 = 1 then 2 * g 5 + 2 else 3 ^ sPl g
theorem sSz_le {g : zg} (hg : gOk g) : 1 ≤ sSz g ∧ sSz g ≤ 19683 := by
  unfold sSz
  have := zpow_le9 (sPl_pos hg).2
  have := Nat.pow_pos (n := sPl g) (show 0 < 3 by decide)
  obtain ⟨-, -, -, -, -, h5, -⟩ := hg
  split <;> omega
theorem sIn_sz {g : zg} {p : Nat} (h : sIn g p) : p < sSz g := by
  unfold sIn at h
  unfold sSz
  split at h
  · rename_i c
    rw [if_pos c]
    omega
  · rename_i c
    rw [if_neg c]
    exact h
/-- the mask of the moves that can be done; of the best -/
def sLg (g : zg) (p : Nat) : Nat := sFB (sCan g p) 9
def sBs (g : zg) (p : Nat) : Nat := sFB (sBst g p) 9
theorem sLg_lt (g : zg) (p : Nat) : sLg g p < 512 := sFB_lt _ 9
theorem sBs_lt (g : zg) (p : Nat) : sBs g p < 512 := sFB_lt _ 9
theorem sCan_9 {g : zg} (hg : gOk g) {p m : Nat} (h : sCan g p m = true) : m < 9 := by
  have := sCan_lt h
  have := sMM_pos hg
  omega
theorem sLg_tb {g : zg} (hg : gOk g) (p m : Nat) : (sLg g p).testBit m = sCan g p m := by
  unfold sLg
  rw [sFB_tb]
  cases e : sCan g p m with
  | false => exact Bool.and_false _
  | true => rw [decide_eq_true (sCan_9 hg e)]; rfl
theorem sBs_tb {g : zg} (hg : gOk g) (p m : Nat) : (sBs g p).testBit m = sBst g p m := by
  unfold sBs
  rw [sFB_tb]
  cases e : sBst g p m with
  | false => exact Bool.and_false _
  | true =>
    rw [decide_eq_true (sCan_9 hg (p := p) ?_)]
    · rfl
    · unfold sBst at e
      exact (Bool.and_eq_true_iff.mp e).1
/-- the table of the game, laid -/
def kTb (g : zg) (I : zI) : Prop := (∀ p, p < 19683 → (sR g p ∧ I 46 p = nI (sWork g p)) ∨ (¬ sR g p ∧ I 46 p = -1)) ∧ (∀ p, p < 19683 → sR g p → sWork g p < 2 → I 47 p = nI (sLg g p) ∧ I 48 p = nI (sVal g p) ∧ I 49 p = nI (sBs g p)) ∧ (∀ p, p < 19683 → ¬ (sR g p ∧ sWork g p < 2) → I 47 p = 0 ∧ I 49 p = 0) ∧ I 44 7 = nI (sSz g)
theorem kTb_of {g : zg} {I I' : zI} (h : kTb g I) (h6 : I' 46 = I 46) (h7 : I' 47 = I 47) (h8 : I' 48 = I 48) (h9 : I' 49 = I 49) (h4 : I' 44 7 = I 44 7) : kTb g I' := by
  unfold kTb
  rw [h6, h7, h8, h9, h4]
  exact h
/-- what a position is worth to a side, its state and worth to its mover known -/
def sWT (w v s : Nat) : Nat := if w < 2 then (if w = s then v else 2 - v) else if w = 4 then 1 else if w - 2 = s then 2 else 0
theorem sWT_le {w v s : Nat} (h : v ≤ 2) : sWT w v s ≤ 2 := by
  unfold sWT
  repeat' split
  all_goals omega
section
variable {G : zG} {n : Nat} {I : zI} {L : zL} {q : zq} {post : zPo} {g : zg}
theorem k_size (h : post (some (.int (I 44 7))) I L (zR1 q)) : zC G (n + 1) 214 [.ref 44] I L (zR1 q) post := zin0 rfl rfl rfl (b214_0 h)
theorem k_start (hg : kG g I) (h : post (some (.int (nI (sFirst g)))) I L (zR1 q)) : zC G (n + 1) 215 [.ref 44] I L (zR1 q) post := by
  have e : (2 : Int32) * I 45 3 = nI (sFirst g) := by
    rw [hg.2.1]
    unfold sFirst
    split
    · exact pk_mul 2 _
    · rfl
  rw [← e] at h
  exact zin0 rfl rfl rfl (b215_0 h)
theorem k_stateOf {x : Int32} (h1 : ∀ p, p < 19683 → x = nI p → post (some (.int (I 46 p))) I L (zR1 q)) (h0 : xOut x 19683 → post (some (.int (-1))) I L (zR1 q)) : zC G (n + 1) 216 [.ref 44, .int x] I L (zR1 q) post := by
  refine zin0 rfl rfl rfl (b216_0 ?_)
  rcases pk_ix x (n := 19683) (by decide) with c | c | ⟨p, hp, rfl⟩
  · exact And.intro (fun _ => b216_22 (b216_23 (h0 (.inl c)))) (fun z => absurd c z)
  · exact And.intro (fun z => b216_22 (b216_23 (h0 (.inl z)))) (fun _ => And.intro (fun _ => b216_22 (b216_23 (h0 (.inr c)))) (fun z => absurd c z))
  · refine And.intro (fun z => absurd z (nI_pos (by omega))) (fun _ => pk_le 19683 p (fun z => absurd z (by omega)) (fun _ => And.intro (vp_in_nI hp (by decide)) (b216_23 ?_)) rfl rfl (by omega) (by omega))
    rw [nI_clamp (by omega)]
    exact h1 p hp rfl
theorem k_goesOn {x : Int32} (h1 : ∀ p, p < 19683 → x = nI p → (I 46 p = 0 ∨ I 46 p = 1) → post (some (.int 1)) I L (zR1 q)) (h0 : (∀ p, p < 19683 → x = nI p → I 46 p ≠ 0 ∧ I 46 p ≠ 1) → post (some (.int 0)) I L (zR1 q)) : zC G (n + 1) 217 [.ref 44, .int x] I L (zR1 q) post := by
  have no : ∀ {y : Int32}, xOut x 19683 → post (some (.int 0)) I L (zR1 q) := fun c => h0 fun p hp hx => absurd c (xOut_no hp (by decide) hx)
  refine zin0 rfl rfl rfl (b217_0 ?_)
  rcases pk_ix x (n := 19683) (by decide) with c | c | ⟨p, hp, rfl⟩
  · exact And.intro (fun _ => b217_36 (b217_37 (And.intro rfl (no (y := 0) (.inl c))))) (fun z => absurd c z)
  · exact And.intro (fun z => b217_36 (b217_37 (And.intro rfl (no (y := 0) (.inl z))))) (fun _ => And.intro (fun _ => b217_36 (b217_37 (And.intro rfl (no (y := 0) (.inr c))))) (fun z => absurd c z))
  · refine And.intro (fun z => absurd z (nI_pos (by omega))) (fun _ => pk_le 19683 p (fun z => absurd z (by omega)) (fun _ => And.intro (vp_in_nI hp (by decide)) ?_) rfl rfl (by omega) (by omega))
    rw [nI_clamp (by omega)]
    refine And.intro (fun c => b217_32 (b217_37 (And.intro rfl (h1 p hp rfl (.inl c))))) (fun c => And.intro (vp_in_nI hp (by decide)) ?_)
    rw [nI_clamp (by omega)]
    exact And.intro (fun c2 => b217_36 (b217_37 (And.intro rfl (h0 fun p' hp' e => by
      have e2 := nI_inj (by omega) (by omega) e
      rw [← e2]
      exact ⟨c, c2⟩)))) (fun c2 => b217_32 (b217_37 (And.intro rfl (h1 p hp rfl (.inr c2)))))
theorem k_legalAt {p : Nat} (hp : p < 19683) (h : post (some (.int (I 47 p))) I L (zR1 q)) : zC G (n + 1) 218 [.ref 44, .int (nI p)] I L (zR1 q) post := by
  refine zin0 rfl rfl rfl (b218_0 (And.intro (fun z => absurd z (nI_pos (by omega))) (fun _ => pk_le 19683 p (fun z => absurd z (by omega)) (fun _ => And.intro (vp_in_nI hp (by decide)) (b218_23 ?_)) rfl rfl (by omega) (by omega))))
  rw [nI_clamp (by omega)]
  exact h
theorem k_bestAt {p : Nat} (hp : p < 19683) (h : post (some (.int (I 49 p))) I L (zR1 q)) : zC G (n + 1) 219 [.ref 44, .int (nI p)] I L (zR1 q) post := by
  refine zin0 rfl rfl rfl (b219_0 (And.intro (fun z => absurd z (nI_pos (by omega))) (fun _ => pk_le 19683 p (fun z => absurd z (by omega)) (fun _ => And.intro (vp_in_nI hp (by decide)) (b219_23 ?_)) rfl rfl (by omega) (by omega))))
  rw [nI_clamp (by omega)]
  exact h
theorem k_worthOf {p : Nat} (hp : p < 19683) (h : post (some (.int (I 48 p))) I L (zR1 q)) : zC G (n + 1) 220 [.ref 44, .int (nI p)] I L (zR1 q) post := by
  refine zin0 rfl rfl rfl (b220_0 (And.intro (fun z => absurd z (nI_pos (by omega))) (fun _ => pk_le 19683 p (fun z => absurd z (by omega)) (fun _ => And.intro (vp_in_nI hp (by decide)) (b220_23 ?_)) rfl rfl (by omega) (by omega))))
  rw [nI_clamp (by omega)]
  exact h
theorem k_stonesOf {p : Nat} (hg : kG g I) (hp : p < 19683) (hh : g 0 = 1 → p / 2 ≤ g 5) (hl : g 0 = 0 → I 47 p = nI (sLg g p)) (h : post (some (.int (nI (sStn g p)))) I L (zR1 q)) : zC G (n + 2) 221 [.ref 44, .int (nI p)] I L (zR1 q) post := by
  refine zin0 rfl rfl rfl (b221_0 (khp hg (fun c => b221_22 ?_) (fun c => And.intro (by decide) ?_)))
  · refine k_legalAt hp ?_
    rw [hl c]
    refine k_bitCount rfl (sLg_lt g p) ?_
    have e : I 45 0 * I 45 1 - nI (sPc (sLg g p)) = nI (sStn g p) := by
      have hle := sCnt_le p (sPl g)
      unfold sLg
      rw [(hg.2.2.2.1 c).1, (hg.2.2.2.1 c).2.1, pk_mul, sPc_sFB, sFree hg.1 c]
      show nI (sPl g) - _ = _
      rw [pk_sub (by omega), show sPl g - (sPl g - sCnt p (sPl g)) = sCnt p (sPl g) by omega]
      unfold sStn
      rw [if_neg (by omega)]
    rw [← e] at h
    exact h
  · have e : I 45 3 - nI p / 2 = nI (sStn g p) := by
      rw [hg.2.1, if_pos c, show nI p / 2 = nI (p / 2) from pk_div (d := 2) (by omega) (by decide) (by decide), pk_sub (hh c)]
      unfold sStn
      rw [if_pos c]
    rw [← e] at h
    exact h
theorem k_next {p m : Nat} (hg : kG g I) (hp : p < 19683) (hs : I 46 p = nI (sMov g p)) (hc : sCan g p m = true) (h : post (some (.int (nI (sBeh g p m)))) I L (zR1 q)) : zC G (n + 1) 222 [.ref 44, .int (nI p), .int (nI m)] I L (zR1 q) post := by
  have hm := sCan_9 hg.1 hc
  have hmv := sMov_le g p
  refine zin0 rfl rfl rfl (b222_0 (And.intro (fun z => absurd z (nI_pos (by omega))) (fun _ => pk_le 19683 p (fun z => absurd z (by omega)) (fun _ => And.intro (fun z => absurd z (nI_pos (by omega))) (fun _ => pk_lt m 9 (fun _ => b222_25 (And.intro (vp_in_nI hp (by decide)) ?_)) (fun z => absurd z (by omega)) rfl rfl (by omega) (by omega))) rfl rfl (by omega) (by omega))))
  rw [nI_clamp (n := p) (by omega), hs]
  refine khp hg (fun c => b222_56 ?_) (fun c => And.intro (by decide) ?_)
  · refine And.intro (vp_in_nI (show m < 10 by omega) (by decide)) ?_
    have e : nI p + zstv 0 (nI m).toNatClampNeg * (nI (sMov g p) + 1) = nI (sBeh g p m) := by
      rw [nI_clamp (by omega), zpow0 m (by omega), nI_1, pk_mul, nI_add]
      unfold sBeh
      rw [if_neg (by omega), Nat.mul_comm]
    rw [← e] at h
    exact h
  · have h1 := sCan_heap hc c
    have e : (2 : Int32) * (nI p / 2 - nI m - 1) + 1 - nI (sMov g p) = nI (sBeh g p m) := by
      rw [show nI p / 2 = nI (p / 2) from pk_div (d := 2) (by omega) (by decide) (by decide), pk_sub (by omega), show (1 : Int32) = nI 1 from rfl, pk_sub (by omega), show (2 : Int32) = nI 2 from rfl, pk_mul, nI_add]
      have e2 : sMov g p = p % 2 := by unfold sMov; rw [if_pos c]
      rw [e2, pk_sub (by omega)]
      unfold sBeh
      rw [if_pos c]
    rw [← e] at h
    exact h
theorem k_worthTo {p w v s : Nat} (hp : p < 19683) (hw4 : w ≤ 4) (hs : s ≤ 1) (h6 : I 46 p = nI w) (h8 : w < 2 → I 48 p = nI v ∧ v ≤ 2) (h : post (some (.int (nI (sWT w v s)))) I L (zR1 q)) : zC G (n + 1) 223 [.ref 44, .int (nI p), .int (nI s)] I L (zR1 q) post := by
  have hcp : (nI p).toNatClampNeg = p := nI_clamp (by omega)
  refine zin0 rfl rfl rfl (b223_0 (And.intro (fun z => absurd z (nI_pos (by omega))) (fun _ => pk_lt p 19683 (fun _ => b223_15 (And.intro (vp_in_nI hp (by decide)) ?_)) (fun z => absurd z (by omega)) rfl rfl (by omega) (by omega))))
  rw [hcp, h6]
  have low : w < 2 → zQ G 223 n post 31 [some (.ref 44), some (.int (nI p)), some (.int (nI s)), some (.int (nI w))] [] I L (zR1 q) := by
    intro c
    refine b223_31 (pk_ne w s (fun d => b223_45 (And.intro (vp_in_nI hp (by decide)) (b223_53 ?_))) (fun d => And.intro (vp_in_nI hp (by decide)) (b223_53 ?_)) rfl rfl (by omega) (by omega))
    · rw [hcp, (h8 c).1, show (2 : Int32) - nI v = nI (2 - v) from pk_sub (a := 2) (h8 c).2]
      unfold sWT at h
      rw [if_pos c, if_neg d] at h
      exact h
    · rw [hcp, (h8 c).1]
      unfold sWT at h
      rw [if_pos c, if_pos d] at h
      exact h
  refine pk_eq w 0 (fun c => low (by omega)) (fun c => pk_ne w 1 (fun c2 => b223_54 ?_) (fun c2 => low (by omega)) rfl rfl (by omega) (by omega)) rfl rfl (by omega) (by omega)
  have over : w = 2 ∨ w = 3 → zQ G 223 n post 64 [some (.ref 44), some (.int (nI p)), some (.int (nI s)), some (.int (nI w))] [] I L (zR1 q) := by
    intro d
    have e : nI w - 2 = nI (w - 2) := pk_sub (b := 2) (by omega)
    refine b223_64 (pk_ne (w - 2) s (fun d2 => b223_75 (b223_76 ?_)) (fun d2 => b223_76 ?_) e rfl (by omega) (by omega))
    · unfold sWT at h
      rw [if_neg (by omega), if_neg (by omega), if_neg d2] at h
      exact h
    · unfold sWT at h
      rw [if_neg (by omega), if_neg (by omega), if_pos d2] at h
      exact h
  refine pk_eq w 2 (fun c3 => over (.inl c3)) (fun c3 => pk_ne w 3 (fun c4 => b223_77 ?_) (fun c4 => over (.inr c4)) rfl rfl (by omega) (by omega)) rfl rfl (by omega) (by omega)
  unfold sWT at h
  rw [if_neg (by omega), if_pos (by omega)] at h
  exact h
theorem k_boardPlaces (hg : kG g I) (hb : g 0 = 0) (h : post (some (.int (nI (sPl g)))) I L (zR1 q)) : zC G (n + 1) 226 [.ref 44] I L (zR1 q) post := by
  have hp := sPl_pos hg.1
  have e : I 45 0 * I 45 1 = nI (sPl g) := by
    rw [(hg.2.2.2.1 hb).1, (hg.2.2.2.1 hb).2.1, pk_mul]
    rfl
  refine zin0 rfl rfl rfl (b226_0 ?_)
  have e2 : (if I 45 0 * I 45 1 < (9 : Int32) then I 45 0 * I 45 1 else (9 : Int32)) = nI (sPl g) := by
    rw [e]
    split
    · rfl
    · rename_i z
      have z2 : ¬ sPl g < 9 := fun w => z ((nI_ltI (b := 9) (by omega) (by omega)).mpr w)
      rw [show sPl g = 9 by omega]
      rfl
  have e3 : (if (1 : Int32) < (if I 45 0 * I 45 1 < (9 : Int32) then I 45 0 * I 45 1 else (9 : Int32)) then (if I 45 0 * I 45 1 < (9 : Int32) then I 45 0 * I 45 1 else (9 : Int32)) else 1) = nI (sPl g) := by
    rw [e2]
    split
    · rfl
    · rename_i z
      have z2 : ¬ 1 < sPl g := fun w => z ((nI_ltI (a := 1) (by omega) (by omega)).mpr w)
      rw [show sPl g = 1 by omega]
      rfl
  rw [← e3] at h
  exact h
/-- the i-th number in the order of laying -/
def sOr (g : zg) (i : Nat) : Nat := if g 0 = 1 then sSz g - 1 - i else i
theorem k_inOrder {i : Nat} (hg : kG g I) (h7 : I 44 7 = nI (sSz g)) (hi : i < sSz g) (h : post (some (.int (nI (sOr g i)))) I L (zR1 q)) : zC G (n + 1) 227 [.ref 44, .int (nI i)] I L (zR1 q) post := by
  refine zin0 rfl rfl rfl (b227_0 (khp hg (fun c => b227_21 (b227_22 ?_)) (fun c => ?_)))
  · unfold sOr at h
    rw [if_neg (by omega)] at h
    exact h
  · refine b227_22 ?_
    have e : I 44 7 - 1 - nI i = nI (sOr g i) := by
      rw [h7, show (1 : Int32) = nI 1 from rfl, pk_sub (by omega), pk_sub (by omega)]
      unfold sOr
      rw [if_pos c]
    rw [← e] at h
    exact h
end
