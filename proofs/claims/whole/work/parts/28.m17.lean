-- ===== the reference: like, state =====
section
variable {G : zG} {n : Nat} {I : zI} {L : zL} {q : zq} {post : zPo} {g : zg} {c : sC} {w : uW}
theorem mG_34 (hg : mG g I) {v : Int32} : mG g (zup I 0 34 v) := ⟨hg.1, fun k hk => by rw [zup_k (by omega)]; exact hg.2 k hk⟩
theorem mPos_34 (hm : mPos g I) {v : Int32} : mPos g (zup I 0 34 v) := mPos_of hm (zup_ne (by decide)) (zup_ne (by decide)) (zup_ne (by decide))
theorem c_like {x : Int32} (hg : mG g I) (hm : mPos g I) (h1 : ∀ p, x = nI p → sR g p → sWork g p < 2 → post (some (.int (nI (sBox g p)))) (zup I 0 34 0) L (zR1 q)) (h0 : (∀ p, x = nI p → p < 2 ^ 31 → sR g p → 2 ≤ sWork g p) → post (some (.int (-1))) (zup I 0 34 0) L (zR1 q)) : zC G (n + 5) 65 [.ref 0, .int x] I L (zR1 q) post := by
  refine zin0 rfl rfl rfl (b65_0 (c_goesOn hg.1 (mPos_34 hm) (fun p hx hr hw => ?_) (fun hn => ?_)))
  · subst hx
    exact And.intro (fun z => absurd z (by decide)) (fun _ => c_boxOf (mG_34 hg) (sR_lt hg.1 hr) (b65_22 (h1 p rfl hr hw)))
  · exact And.intro (fun _ => b65_21 (b65_22 (h0 hn))) (fun z => absurd rfl z)
theorem c_state {x : Int32} (hg : mG g I) (hm : mPos g I) (h1 : ∀ p, x = nI p → sR g p → post (some (.int (nI (sWork g p)))) (zup I 0 34 0) L (zR1 q)) (h0 : (∀ p, x = nI p → p < 2 ^ 31 → ¬ sR g p) → post (some (.int (-1))) (zup I 0 34 0) L (zR1 q)) : zC G (n + 3) 68 [.ref 0, .int x] I L (zR1 q) post := by
  refine zin0 rfl rfl rfl (b68_0 (c_isPosition hg.1 (mPos_34 hm) (fun p hx hr => ?_) (fun hn => ?_)))
  · subst hx
    have hp := sR_lt hg.1 hr
    refine And.intro (fun z => absurd z (by decide)) (fun _ => And.intro (vp_in_nI hp (by decide)) (b68_23 ?_))
    have e : I 2 (nI p).toNatClampNeg = nI (sWork g p) := by rw [nI_clamp (by omega)]; exact (mPos_R hg.1 hm hr).2.1
    have qq := h1 p rfl hr
    rw [← e] at qq
    exact qq
  · exact And.intro (fun _ => b68_22 (b68_23 (h0 hn))) (fun z => absurd rfl z)
end
