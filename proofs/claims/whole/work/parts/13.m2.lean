-- ===== the reference: moves =====
section
variable {G : zG} {n : Nat} {I : zI} {L : zL} {q : zq} {post : zPo} {g : zg}
def pOk (g : zg) (p : Nat) : Prop := p < 19683 ∧ (g 0 = 1 → p / 2 ≤ g 5)
theorem g0_01 {g : zg} (h : gOk g) : g 0 = 0 ∨ g 0 = 1 := by have := h.1; omega
/-- the branch on isHeap -/
theorem zhp {A B : Prop} (hg : mG g I) (f : g 0 = 0 → A) (f2 : g 0 = 1 → B) : (I 0 0 = 0 → A) ∧ (¬ I 0 0 = 0 → B) := by
  rw [mG0 hg 0 (by decide)]
  exact pk_eq (g 0) 0 f (fun c => f2 (by have := hg.1.1; omega)) rfl rfl (by have := hg.1.1; omega)
theorem zhpn {A B : Prop} (hg : mG g I) (f : g 0 = 0 → A) (f2 : g 0 = 1 → B) : (¬ I 0 0 = 0 → B) ∧ (I 0 0 = 0 → A) := ⟨(zhp hg f f2).2, (zhp hg f f2).1⟩
theorem c_first (hg : mG g I) (h : post (some (.int (nI (sFirst g)))) I L (zR1 q)) : zC G (n + 1) 8 [.ref 0] I L (zR1 q) post := by
  refine zin0 rfl rfl rfl (b8_0 (zhp hg (fun c => ?_) (fun c => ?_)))
  · refine b8_16 (b8_17 ?_)
    rw [show sFirst g = 0 by unfold sFirst; rw [if_neg (by omega)]] at h
    exact h
  · refine b8_17 ?_
    have e : (2 : Int32) * I 0 5 = nI (sFirst g) := by
      rw [mG0 hg 5 (by decide), show (2 : Int32) = nI 2 from rfl, pk_mul]
      unfold sFirst
      rw [if_pos c]
    rw [← e] at h
    exact h
theorem c_mover {p : Nat} (hg : mG g I) (hp : pOk g p) (h : post (some (.int (nI (sMov g p)))) I L (zR1 q)) : zC G (n + 3) 9 [.ref 0, .int (nI p)] I L (zR1 q) post := by
  have hp1 := hp.1
  have hpl := sPl_pos hg.1
  refine zin0 rfl rfl rfl (b9_0 (zhp hg (fun c => ?_) (fun c => ?_)))
  · refine b9_13 (c_stones hg (by omega) hp.2 (b9_20 ?_))
    have hs : sStn g p = sCnt p (sPl g) := by unfold sStn; rw [if_neg (by omega)]
    have hl := sCnt_le p (sPl g)
    have e : nI (sStn g p) &&& 1 = nI (sMov g p) := by
      rw [hs, pk_andN (by omega) 1 rfl]
      unfold sMov
      rw [if_neg (by omega)]
    rw [← e] at h
    exact h
  · refine b9_20 ?_
    have e : nI p &&& 1 = nI (sMov g p) := by
      rw [pk_andN (by omega) 1 rfl]
      unfold sMov
      rw [if_pos c]
    rw [← e] at h
    exact h
theorem c_moveMany (hg : mG g I) (h : post (some (.int (nI (sMM g)))) I L (zR1 q)) : zC G (n + 2) 10 [.ref 0] I L (zR1 q) post := by
  refine zin0 rfl rfl rfl (b10_0 (zhp hg (fun c => ?_) (fun c => ?_)))
  · refine b10_14 (c_places hg (b10_18 ?_))
    rw [show sMM g = sPl g by unfold sMM; rw [if_neg (by omega)]] at h
    exact h
  · refine b10_18 ?_
    rw [show nI (sMM g) = I 0 6 by rw [mG0 hg 6 (by decide)]; unfold sMM; rw [if_pos c]] at h
    exact h
/-- 'can' of any int -/
def sCanX (g : zg) (p : Nat) (x : Int32) : Bool := decide (0 ≤ x) && sCan g p x.toNatClampNeg
theorem sCanX_nI {g : zg} {p m : Nat} (h : m < 2 ^ 31) : sCanX g p (nI m) = sCan g p m := by
  unfold sCanX
  rw [nI_clamp h, decide_eq_true (nI_pos' h)]
  rfl
theorem c_canX {p : Nat} {x : Int32} (hg : mG g I) (hp : pOk g p) (h : post (some (.int (zbo (sCanX g p x)))) I L (zR1 q)) : zC G (n + 3) 11 [.ref 0, .int (nI p), .int x] I L (zR1 q) post := by
  have hp1 := hp.1
  have hmm := sMM_pos hg.1
  refine zin0 rfl rfl rfl (b11_0 (c_moveMany hg ?_))
  have e1 : nI (sMM g) - 1 = nI (sMM g - 1) := pk_sub (b := 1) hmm.1
  show zCon G (n + 2) 2 zNN zNN [.int x, .int 0, .int (nI (sMM g) - 1)] I L (zR1 q) _
  rw [e1]
  rcases pk_ix x (n := sMM g) (by omega) with c | c | ⟨m, hm, rfl⟩
  · refine c_in ?_
    rw [decide_eq_false (fun z => Int32.not_lt.mpr z.1 c)]
    refine zbo_ne (fun z => absurd z (by decide)) (fun _ => And.intro rfl ?_)
    rw [show sCanX g p x = false by unfold sCanX; rw [decide_eq_false (Int32.not_le.mpr c)]; rfl] at h
    exact h
  · have hx0 : (0 : Int32) ≤ x := Int32.le_trans (nI_pos' (n := sMM g) (by omega)) c
    refine c_in ?_
    rw [decide_eq_false (fun z => by
      have q := Int32.le_trans c z.2
      rw [nI_leI (by omega) (by omega)] at q
      omega)]
    refine zbo_ne (fun z => absurd z (by decide)) (fun _ => And.intro rfl ?_)
    obtain ⟨j, hj, rfl⟩ := nI_of (Int32.not_lt.mpr hx0)
    rw [nI_leI (by omega) hj] at c
    rw [sCanX_nI hj, show sCan g p j = false by unfold sCan; rw [decide_eq_false (by omega)]; rfl] at h
    exact h
  · rw [sCanX_nI (by omega)] at h
    refine c_inN (x := m) (lo := 0) (hi := sMM g - 1) rfl rfl rfl (by omega) (by omega) (by omega) ?_
    rw [decide_eq_true (by omega)]
    refine zbo_ne (fun _ => ?_) (fun z => absurd z (by decide))
    refine b11_16 (zhp hg (fun c => ?_) (fun c => ?_))
    · have hm9 : m < sPl g := by unfold sMM at hm; rw [if_neg (by omega)] at hm; exact hm
      have hpl := sPl_pos hg.1
      refine b11_40 (c_cell (by omega) (by omega) ?_)
      have hc : sCell p m < 3 := Nat.mod_lt _ (by decide)
      have hs : sCan g p m = decide (sCell p m = 0) := by unfold sCan; rw [decide_eq_true hm, if_neg (by omega)]; rfl
      refine And.intro (fun z => b11_53 (b11_54 (And.intro rfl ?_))) (fun z => b11_54 (And.intro rfl ?_))
      · have : sCell p m ≠ 0 := fun w => z (by rw [w]; rfl)
        rw [hs, decide_eq_false this] at h
        exact h
      · have : sCell p m = 0 := (nI_eq (b := 0) (by omega) (by omega)).mp z
        rw [hs, decide_eq_true this] at h
        exact h
    · have hs : sCan g p m = decide (m + 1 ≤ p / 2) := by unfold sCan; rw [decide_eq_true hm, if_pos c]; rfl
      have e2 : nI m + 1 = nI (m + 1) := nI_1 m
      have e3 : nI p / 2 = nI (p / 2) := pk_div (d := 2) (by omega) (by decide) (by decide)
      refine And.intro (by decide) ?_
      refine pk_lt (p / 2) (m + 1) (fun z => b11_36 (b11_54 (And.intro rfl ?_))) (fun z => b11_54 (And.intro rfl ?_)) e3 e2 (by omega) (by omega)
      · rw [hs, decide_eq_false (by omega)] at h
        exact h
      · rw [hs, decide_eq_true (by omega)] at h
        exact h
theorem c_can {p m : Nat} (hg : mG g I) (hp : pOk g p) (hm : m < 2 ^ 31) (h : post (some (.int (zbo (sCan g p m)))) I L (zR1 q)) : zC G (n + 3) 11 [.ref 0, .int (nI p), .int (nI m)] I L (zR1 q) post := c_canX hg hp (by rw [sCanX_nI hm]; exact h)
theorem sCan_lt {g : zg} {p m : Nat} (h : sCan g p m = true) : m < sMM g := of_decide_eq_true (Bool.and_eq_true_iff.mp h).1
theorem sCan_heap {g : zg} {p m : Nat} (h : sCan g p m = true) (c : g 0 = 1) : m + 1 ≤ p / 2 := by
  have q := (Bool.and_eq_true_iff.mp h).2
  rw [if_pos c] at q
  exact of_decide_eq_true q
theorem sCan_board {g : zg} {p m : Nat} (h : sCan g p m = true) (c : g 0 = 0) : sCell p m = 0 ∧ m < sPl g := by
  have q := (Bool.and_eq_true_iff.mp h).2
  rw [if_neg (by omega)] at q
  have q2 := sCan_lt h
  unfold sMM at q2
  rw [if_neg (by omega)] at q2
  exact ⟨of_decide_eq_true q, q2⟩
theorem c_behind {p m : Nat} (hg : mG g I) (hp : pOk g p) (hc : sCan g p m = true) (h : post (some (.int (nI (sBeh g p m)))) I L (zR1 q)) : zC G (n + 4) 12 [.ref 0, .int (nI p), .int (nI m)] I L (zR1 q) post := by
  have hp1 := hp.1
  refine zin0 rfl rfl rfl (b12_0 (zhpn hg (fun c => ?_) (fun c => ?_)))
  · obtain ⟨h1, h2⟩ := sCan_board hc c
    have hpl := sPl_pos hg.1
    obtain ⟨z1, z2⟩ := zpow_lt m (by omega)
    have hmv := sMov_le g p
    refine c_mover hg hp (And.intro (vp_in_nI (show m < 10 by omega) (by decide)) ?_)
    have e : nI p + (nI (sMov g p) + 1) * zstv 2 (nI m).toNatClampNeg = nI (sBeh g p m) := by
      rw [nI_clamp (by omega), zpow2 m (by omega), nI_1, pk_mul, nI_add]
      unfold sBeh
      rw [if_neg (by omega)]
    rw [← e] at h
    exact h
  · have h1 := sCan_heap hc c
    refine b12_23 (And.intro (by decide) ?_)
    have e : (2 : Int32) * (nI p / 2 - nI m - 1) + 1 - (nI p &&& 1) = nI (sBeh g p m) := by
      rw [show nI p / 2 = nI (p / 2) from pk_div (d := 2) (by omega) (by decide) (by decide), pk_sub (by omega), show (1 : Int32) = nI 1 from rfl, pk_sub (by omega), show (2 : Int32) = nI 2 from rfl, pk_mul, nI_add, pk_andN (by omega) 1 rfl, pk_sub (by omega)]
      unfold sBeh
      rw [if_pos c]
    rw [← e] at h
    exact h
end
