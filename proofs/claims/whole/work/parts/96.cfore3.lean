-- ===== the class: the forecast: where the chest moves =====
/-- sums over the chest's moves -/
def fSm (g : zg) (fr : Nat → Nat) (c : sC) (v : Nat → Nat → Nat) (p e : Nat) : Nat → Nat := sSum (fun m => sWt g fr c p m * v (sBeh g p (sMv g p m)) e)
section
variable {G : zG} {n : Nat} {I : zI} {L : zL} {q : zq} {fo : Option Nat} {post : zPo} {g : zg} {c : sC} {fr : Nat → Nat} {O B P fA : Nat}
theorem sWt_mm {g : zg} (hg : gOk g) {fr : Nat → Nat} {c : sC} {p k : Nat} (h : 0 < sWt g fr c p k) : k < sMM g := by
  have e := sWt_can (g := g) (fr := fr) (c := c) (p := p) (m := k) (by omega)
  exact sCan_lt (sHas_lt hg e).2
theorem sSum_mm {g : zg} (hg : gOk g) {f : Nat → Nat} (h : ∀ k, sMM g ≤ k → f k = 0) : sSum f 9 = sSum f (sMM g) := by
  have mm := sMM_pos hg
  have more : ∀ j, sSum f (sMM g + j) = sSum f (sMM g) := by
    intro j
    induction j with
    | zero => rfl
    | succ j ih =>
      show sSum f (sMM g + j) + f (sMM g + j) = _
      rw [ih, h _ (by omega), Nat.add_zero]
  have := more (9 - sMM g)
  rw [show sMM g + (9 - sMM g) = 9 by omega] at this
  exact this
set_option maxHeartbeats 1000000 in
theorem k_ownSums {v : Nat → Nat → Nat} {p : Nat} (hO : kCo O B P) (hfA : kAr fA 21) (hL : kLay g I) (hfr : kFr fr fA I) (hc : kC g c O B P I) (hin : cIn g c) (hr : sR g p) (hw : sWork g p = g 8) (hod : ∀ k, 0 < sWt g fr c p k → ∀ e, e < 3 → I 90 (3 * sBeh g p (sMv g p k) + e) = nI (v (sBeh g p (sMv g p k)) e)) (hv : ∀ x e, v x e ≤ 1000000000) (h : ∀ v10 v11, zQ G 172 (n + 3) post 117 [some (.ref 89), some (.int (nI p)), some (.long (lN (fSm g fr c v p 2 9))), none, some (.long (lN (fSm g fr c v p 1 9))), none, some (.long (lN (fSm g fr c v p 0 9))), none, some (.int (nI (sSum (sWt g fr c p) 9))), some (.int (nI 9)), v10, v11] [] I L (zR1 (some O, fo, some fA))) : zC G (n + 4) 172 [.ref 89, .int (nI p)] I L (zR1 (some O, fo, some fA)) post := by
  have hg := hL.1.1
  have g8 := hg.2.2.2.2.2.2.2.2
  have hw2 : sWork g p < 2 := by omega
  have wb : ∀ k, k < 9 → sWt g fr c p k ≤ 10000 := fun k hk => by
    unfold sWt
    split
    · split
      · have h19 := sR_lt hg (gR_box hg hr).1
        exact (cAll_bd hin.1 (k := 9 * sBox g p + k) (by omega)).1
      · have := (hfr (min 20 (sStn g (sBox g p))) (by omega)).2
        omega
    · omega
  have key : ∀ j i (v10 v11 : Option Value), i + j = 9 → zQ G 172 (n + 3) post 14 [some (.ref 89), some (.int (nI p)), some (.long (lN (fSm g fr c v p 2 i))), none, some (.long (lN (fSm g fr c v p 1 i))), none, some (.long (lN (fSm g fr c v p 0 i))), none, some (.int (nI (sSum (sWt g fr c p) i))), some (.int (nI i)), v10, v11] [] I L (zR1 (some O, fo, some fA)) := by
    intro j
    induction j with
    | zero =>
      intro i v10 v11 hi
      have e9 : i = 9 := by omega
      subst e9
      exact b172_14 (pk_le 9 9 (fun _ => h v10 v11) (fun z => absurd z (by omega)) rfl rfl (by omega) (by omega))
    | succ j ih =>
      intro i v10 v11 hi
      have hi9 : i < 9 := by omega
      have eS : ∀ e, fSm g fr c v p e (i + 1) = fSm g fr c v p e i + sWt g fr c p i * v (sBeh g p (sMv g p i)) e := fun _ => rfl
      have eT : sSum (sWt g fr c p) (i + 1) = sSum (sWt g fr c p) i + sWt g fr c p i := rfl
      have hb := wb i hi9
      refine b172_14 (pk_le 9 i (fun z => absurd z (by omega)) (fun _ => k_beadsAt hO hfA hL hfr hc hin hr hw hi9 (pk_le (sWt g fr c p i) 0 (fun z => ?_) (fun z => ?_) rfl rfl (by omega) (by omega))) rfl rfl (by omega) (by omega))
      · have z0 : sWt g fr c p i = 0 := by omega
        have qq := ih (i + 1) (some (.int (nI (sWt g fr c p i)))) v11 (by omega)
        rw [eS, eS, eS, eT, z0, Nat.zero_mul, Nat.zero_mul, Nat.zero_mul, Nat.add_zero, Nat.add_zero, Nat.add_zero, Nat.add_zero, ← nI_1] at qq
        rw [z0]
        exact b172_111 qq
      · have hmm := sWt_mm hg z
        have hcan := sMv_can hg (p := p) (sHas_lt hg (sWt_can (g := g) (fr := fr) (c := c) (p := p) (m := i) (by omega))).2
        have hrb := sR_step hr hw2 hcan
        have h19 := sR_lt hg hrb
        refine k_moveBack hL hr hw2 hi9 (fun x _ hx => ?_)
        rw [hx hmm]
        refine k_nextL hL hr hw2 hcan ?_
        have o2 := hod i z 2 (by decide)
        have o1 := hod i z 1 (by decide)
        have o0 := hod i z 0 (by decide)
        have q2 := hv (sBeh g p (sMv g p i)) 2
        have q1 := hv (sBeh g p (sMv g p i)) 1
        have q0 := hv (sBeh g p (sMv g p i)) 0
        have qq := ih (i + 1) (some (.int (nI (sWt g fr c p i)))) (some (.int (nI (sBeh g p (sMv g p i))))) (by omega)
        rw [eS, eS, eS, eT, ← nI_add, ← nI_1, ← lN_acc, ← lN_acc, ← lN_acc, ← nI_l (n := sWt g fr c p i) (by omega), ← nI_l (n := v (sBeh g p (sMv g p i)) 2) (by omega), ← nI_l (n := v (sBeh g p (sMv g p i)) 1) (by omega), ← nI_l (n := v (sBeh g p (sMv g p i)) 0) (by omega), ← o2, ← o1, ← o0] at qq
        exact k_oddsOf h19 (by decide) (k_oddsOf h19 (by decide) (k_oddsOf h19 (by decide) (b172_111 qq)))
  exact zin0 rfl rfl rfl (b172_0 (key 9 0 none none (by omega)))
end
