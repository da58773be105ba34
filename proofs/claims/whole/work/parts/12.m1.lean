-- ===== the reference: numbers of a position =====
section
variable {G : zG} {n : Nat} {I : zI} {L : zL} {q : zq} {post : zPo} {g : zg}
theorem c_thrown (h : post (some (.int (I 0 34))) I L (zR1 q)) : zC G (n + 1) 1 [.ref 0] I L (zR1 q) post := zin0 rfl rfl rfl (b1_0 h)
theorem c_in {x lo hi : Int32} {R : zR} (h : post (some (.int (zbo (decide (lo ≤ x ∧ x ≤ hi))))) I L R) : zC G (n + 1) 2 [.int x, .int lo, .int hi] I L R post := by
  refine zin0 rfl rfl rfl (b2_0 ?_)
  refine And.intro (fun c1 => ?_) (fun c1 => And.intro (fun c2 => ?_) (fun c2 => ?_))
  · refine b2_14 (b2_15 (And.intro rfl ?_))
    rw [decide_eq_false (fun z => Int32.not_lt.mpr z.1 c1)] at h
    exact h
  · refine b2_14 (b2_15 (And.intro rfl ?_))
    rw [decide_eq_false (fun z => Int32.not_lt.mpr z.2 c2)] at h
    exact h
  · refine b2_15 (And.intro rfl ?_)
    rw [decide_eq_true ⟨Int32.not_lt.mp c1, Int32.not_lt.mp c2⟩] at h
    exact h
/-- 'in' of small numbers -/
theorem c_inN {x lo hi : Nat} {xi li hhi : Int32} {R : zR} (hx : xi = nI x) (hl : li = nI lo) (hh : hhi = nI hi) (h1 : x < 2 ^ 31) (h2 : lo < 2 ^ 31) (h3 : hi < 2 ^ 31) (h : post (some (.int (zbo (decide (lo ≤ x ∧ x ≤ hi))))) I L R) : zC G (n + 1) 2 [.int xi, .int li, .int hhi] I L R post := by
  subst hx hl hh
  refine c_in ?_
  rw [show decide (nI lo ≤ nI x ∧ nI x ≤ nI hi) = decide (lo ≤ x ∧ x ≤ hi) from decide_eq_decide.mpr (by rw [nI_leI h2 h1, nI_leI h1 h3])]
  exact h
theorem c_cell {p k : Nat} (hp : p < 2 ^ 31) (hk : k < 10) (h : post (some (.int (nI (sCell p k)))) I L (zR1 q)) : zC G (n + 1) 5 [.ref 0, .int (nI p), .int (nI k)] I L (zR1 q) post := by
  obtain ⟨z1, z2⟩ := zpow_lt k hk
  have e : zstv 2 (nI k).toNatClampNeg = nI (3 ^ k) := by rw [nI_clamp (by omega), zpow2 k hk]
  refine zin0 rfl rfl rfl (b5_0 (And.intro (vp_in_nI hk (by decide)) (And.intro ?_ (And.intro (by decide) ?_))))
  · show ¬ zstv 2 (nI k).toNatClampNeg = 0
    rw [e]
    exact nI_ne0 z1 (by omega)
  · have e2 : nI p / zstv 2 (nI k).toNatClampNeg - nI p / zstv 2 (nI k).toNatClampNeg / 3 * 3 = nI (sCell p k) := by
      rw [e, pk_div hp z1 (by omega)]
      exact pk_rem (d := 3) (Nat.lt_of_le_of_lt (Nat.div_le_self _ _) hp) (by decide) (by decide)
    rw [← e2] at h
    exact h
theorem c_places (hg : mG g I) (h : post (some (.int (nI (sPl g)))) I L (zR1 q)) : zC G (n + 1) 6 [.ref 0] I L (zR1 q) post := by
  have e : I 0 1 * I 0 2 = nI (sPl g) := by rw [mG0 hg 1 (by decide), mG0 hg 2 (by decide), pk_mul]; rfl
  rw [← e] at h
  exact zin0 rfl rfl rfl (b6_0 h)
theorem c_stones {p : Nat} (hg : mG g I) (hp : p < 2 ^ 31) (hh : g 0 = 1 → p / 2 ≤ g 5) (h : post (some (.int (nI (sStn g p)))) I L (zR1 q)) : zC G (n + 2) 7 [.ref 0, .int (nI p)] I L (zR1 q) post := by
  have hpl := sPl_pos hg.1
  refine zin0 rfl rfl rfl (b7_0 ?_)
  have e0 : I 0 0 = nI (g 0) := mG0 hg 0 (by decide)
  show (I 0 0 = 0 → _) ∧ (¬ I 0 0 = 0 → _)
  rw [e0]
  refine pk_eq (g 0) 0 (fun c => ?_) (fun c => ?_) rfl rfl (by have := hg.1.1; omega)
  · have key : ∀ (j i : Nat), i + j = sPl g → zQ G 7 (n + 1) post 20 [some (.ref 0), some (.int (nI p)), some (.int (nI (sCnt p i))), some (.int (nI i))] [] I L (zR1 q) := by
      intro j
      induction j with
      | zero =>
        intro i hi
        refine b7_20 (c_places hg ?_)
        refine (pk_le (sPl g) i (fun _ => ?_) (fun z => absurd z (by omega)) rfl rfl (by omega) (by omega))
        refine b7_51 ?_
        rw [show sStn g p = sCnt p i by unfold sStn; rw [if_neg (by omega), show i = sPl g by omega]] at h
        exact h
      | succ j ih =>
        intro i hi
        refine b7_20 (c_places hg ?_)
        refine (pk_le (sPl g) i (fun z => absurd z (by omega)) (fun _ => ?_) rfl rfl (by omega) (by omega))
        refine c_cell hp (by omega) ?_
        have hc : sCell p i < 3 := Nat.mod_lt _ (by decide)
        refine (pk_le (sCell p i) 0 (fun z => ?_) (fun z => ?_) rfl rfl (by omega) (by omega))
        · refine b7_42 (b7_43 ?_)
          have q := ih (i + 1) (by omega)
          rw [← nI_1, show nI (sCnt p (i + 1)) = nI (sCnt p i) + 0 by
            rw [show sCnt p (i + 1) = sCnt p i by show sCnt p i + _ = _; rw [if_neg (by omega)]; rfl, Int32.add_zero]] at q
          exact q
        · refine b7_43 ?_
          have q := ih (i + 1) (by omega)
          rw [← nI_1, show nI (sCnt p (i + 1)) = nI (sCnt p i) + 1 by
            rw [show sCnt p (i + 1) = sCnt p i + 1 by show sCnt p i + _ = _; rw [if_pos (by omega)], nI_1]] at q
          exact q
    exact b7_16 (key (sPl g) 0 (by omega))
  · refine And.intro (by decide) ?_
    have hg0 : g 0 = 1 := by have := hg.1.1; omega
    have e : I 0 5 - nI p / 2 = nI (sStn g p) := by
      rw [mG0 hg 5 (by decide), show nI p / 2 = nI (p / 2) from pk_div (d := 2) hp (by decide) (by decide), pk_sub (hh hg0)]
      unfold sStn
      rw [if_pos hg0]
    rw [← e] at h
    exact h
end
