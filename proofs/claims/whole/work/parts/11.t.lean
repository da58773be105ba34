theorem t_thrown {G : zG} {n : Nat} {I : zI} {L : zL} {R : zR} {post : zPo} (h : post (some (.int (I 0 34))) I L R) : zC G (n + 1) 1 [.ref 0] I L R post := zin0 rfl rfl rfl (b1_0 h)
theorem t_in {G : zG} {n : Nat} {I : zI} {L : zL} {R : zR} {post : zPo} {x lo hi : Int32} (h : post (some (.int (if lo ≤ x ∧ x ≤ hi then 1 else 0))) I L R) : zC G (n + 1) 2 [.int x, .int lo, .int hi] I L R post := by
  refine zin0 rfl rfl rfl (b2_0 ?_)
  refine And.intro (fun c1 => ?_) (fun c1 => ?_)
  · refine b2_14 ?_
    refine b2_15 ?_
    refine And.intro rfl ?_
    rw [if_neg (fun z => Int32.not_lt.mpr z.1 c1)] at h
    exact h
  · refine And.intro (fun c2 => ?_) (fun c2 => ?_)
    · refine b2_14 ?_
      refine b2_15 ?_
      refine And.intro rfl ?_
      rw [if_neg (fun z => Int32.not_lt.mpr z.2 c2)] at h
      exact h
    · refine b2_15 ?_
      refine And.intro rfl ?_
      rw [if_pos ⟨Int32.not_lt.mp c1, Int32.not_lt.mp c2⟩] at h
      exact h
theorem t_places {G : zG} {n : Nat} {I : zI} {L : zL} {R : zR} {post : zPo} (h : post (some (.int (I 0 1 * I 0 2))) I L R) : zC G (n + 1) 6 [.ref 0] I L R post := zin0 rfl rfl rfl (b6_0 h)
theorem t_cell {G : zG} {n : Nat} {I : zI} {L : zL} {R : zR} {post : zPo} {p k : Int32} (hk : vp_in k 10) (h0 : ¬ zstv 2 k.toNatClampNeg = 0) (h : post (some (.int (p / zstv 2 k.toNatClampNeg - p / zstv 2 k.toNatClampNeg / 3 * 3))) I L R) : zC G (n + 1) 5 [.ref 0, .int p, .int k] I L R post := by
  refine zin0 rfl rfl rfl (b5_0 ?_)
  refine And.intro hk (And.intro h0 (And.intro (by decide) ?_))
  exact h
theorem t_can {G : zG} {n : Nat} {I : zI} {L : zL} {R : zR} {post : zPo} {p m : Int32} (h : post (some (.int 1)) I L R) : zC G (n + 4) 11 [.ref 0, .int p, .int m] I L R post := by
  refine zin0 rfl rfl rfl (b11_0 ?_)
  sorry
