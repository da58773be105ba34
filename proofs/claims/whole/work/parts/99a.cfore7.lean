-- ===== the class: the forecast: a position of the chest =====
theorem fOd_up {p k : Nat} {I J : zI} {v : Int32} (h : fOd p I J) (h1 : 3 * p ≤ k) (h2 : k < 3 * p + 3) : fOd p I (zup J 90 k v) := fun o k' z => by
  unfold zup
  by_cases d : o = 90
  · rw [if_pos d, if_neg (fun w => z ⟨d, by omega⟩)]
    exact h o k' z
  · rw [if_neg d]
    exact h o k' z
section
variable {G : zG} {n : Nat} {I : zI} {L : zL} {q : zq} {fo : Option Nat} {post : zPo} {g : zg} {c : sC} {fr : Nat → Nat} {O B P fA : Nat}
set_option maxHeartbeats 1000000 in
theorem k_setOwn {v : Nat → Nat → Nat} {p : Nat} (hO : kCo O B P) (hfA : kAr fA 21) (hL : kLay g I) (hfr : kFr fr fA I) (hc : kC g c O B P I) (hin : cIn g c) (hr : sR g p) (hw : sWork g p = g 8) (hod : ∀ k, 0 < sWt g fr c p k → ∀ e, e < 3 → I 90 (3 * sBeh g p (sMv g p k) + e) = nI (v (sBeh g p (sMv g p k)) e)) (hv : ∀ x e, v x e ≤ 1000000000) (h : ∀ I' : zI, (∀ e, e < 3 → I' 90 (3 * p + e) = nI (sOB g fr c v p e)) → fOd p I I' → post none I' L (zR1 (some O, fo, some fA))) : zC G (n + 4) 172 [.ref 89, .int (nI p)] I L (zR1 (some O, fo, some fA)) post := by
  have hg := hL.1.1
  have h19p := sR_lt hg hr
  have wb : ∀ k, k < 9 → sWt g fr c p k ≤ 10000 := fun k hk => by
    unfold sWt
    split
    · split
      · have h19 := sR_lt hg (gR_box hg hr).1
        exact (cAll_bd hin.1 (k := 9 * sBox g p + k) (by omega)).1
      · have := (hfr (min 20 (sStn g (sBox g p))) (by omega)).2
        omega
    · omega
  have eT : sSum (sWt g fr c p) (sMM g) = sSum (sWt g fr c p) 9 := (sSum_mm hg (fun k hk => by
    by_cases z : sWt g fr c p k = 0
    · exact z
    · exact absurd (sWt_mm hg (fr := fr) (c := c) (p := p) (k := k) (by omega)) (by omega))).symm
  have eS : ∀ e, sSum (fun m => sWt g fr c p m * v (sBeh g p (sMv g p m)) e) (sMM g) = fSm g fr c v p e 9 := fun e => (sSum_mm hg (fun k hk => by
    by_cases z : sWt g fr c p k = 0
    · rw [z, Nat.zero_mul]
    · exact absurd (sWt_mm hg (fr := fr) (c := c) (p := p) (k := k) (by omega)) (by omega))).symm
  have bT : ∀ j, j ≤ 9 → sSum (sWt g fr c p) j ≤ 10000 * j := by
    intro j
    induction j with
    | zero => intro _; exact Nat.le_refl _
    | succ j ih =>
      intro hj
      show sSum (sWt g fr c p) j + sWt g fr c p j ≤ _
      have := ih (by omega)
      have := wb j (by omega)
      omega
  have bT9 := bT 9 (Nat.le_refl _)
  have bS : ∀ e, fSm g fr c v p e 9 ≤ 1000000000 * sSum (sWt g fr c p) 9 := fun e => sSum_wb (w := sWt g fr c p) (x := fun m => v (sBeh g p (sMv g p m)) e) (fun i => hv _ e) 9
  have ob0 : sSum (sWt g fr c p) 9 ≤ 0 → ∀ e, sOB g fr c v p e = if e = 0 then 1000000000 else 0 := fun z e => by
    unfold sOB
    rw [eT, if_pos (by omega)]
  have ob1 : 0 < sSum (sWt g fr c p) 9 → ∀ e, sOB g fr c v p e = fSm g fr c v p e 9 / sSum (sWt g fr c p) 9 := fun z e => by
    unfold sOB
    rw [eT, if_neg (by omega), eS]
  have ne0 : 0 < sSum (sWt g fr c p) 9 → ¬ (nI (sSum (sWt g fr c p) 9)).toInt64 = 0 := fun z => by
    rw [nI_l (by omega)]
    exact fun w2 => absurd ((pk_lEQ (b := 0) (by omega) (by omega)).mp w2) (by omega)
  have dv : 0 < sSum (sWt g fr c p) 9 → ∀ e, (lN (fSm g fr c v p e 9) / (nI (sSum (sWt g fr c p) 9)).toInt64).toInt32 = nI (sOB g fr c v p e) := fun z e => by
    have := bS e
    rw [nI_l (by omega), pk_lDiv (by omega) z (by omega), lN_i, ob1 z]
  have ix : ∀ e, e < 3 → (3 : Int32) * nI p + nI e = nI (3 * p + e) := fun e _ => by rw [show (3 : Int32) * nI p = nI (3 * p) from pk_mul 3 p, nI_add]
  have vp : ∀ e, e < 3 → vp_in ((3 : Int32) * nI p + nI e) 59049 := fun e he => by rw [ix e he]; exact vp_in_nI (by omega) (by decide)
  have put : ∀ e, e < 3 → ((3 : Int32) * nI p + nI e).toNatClampNeg = 3 * p + e := fun e he => by rw [ix e he]; exact nI_clamp (by omega)
  refine k_ownSums hO hfA hL hfr hc hin hr hw hod hv (fun v10 v11 => ?_)
  have at194 : ∀ (J : zI), fOd p I J → (∀ e, e < 3 → e ≠ 0 → J 90 (3 * p + e) = nI (sOB g fr c v p e)) → ∀ x : Int32, x = nI (sOB g fr c v p 0) → zQ G 172 (n + 3) post 194 [some (.ref 89), some (.int (nI p)), some (.long (lN (fSm g fr c v p 2 9))), none, some (.long (lN (fSm g fr c v p 1 9))), none, some (.long (lN (fSm g fr c v p 0 9))), none, some (.int (nI (sSum (sWt g fr c p) 9))), some (.int (nI 9)), v10, v11] [.int x, .int ((3 : Int32) * nI p + nI 0), .ref 90] J L (zR1 (some O, fo, some fA)) := fun J jf je x hx => by
    refine b172_194 (And.intro (vp 0 (by decide)) ?_)
    rw [put 0 (by decide), hx]
    refine h _ (fun e he => ?_) (fOd_up jf (by omega) (by omega))
    rw [zup_eq]
    by_cases d : e = 0
    · rw [d, if_pos rfl]
    · rw [if_neg (by omega)]
      exact je e he d
  have at167 : ∀ (J : zI), fOd p I J → J 90 (3 * p + 2) = nI (sOB g fr c v p 2) → ∀ x : Int32, x = nI (sOB g fr c v p 1) → zQ G 172 (n + 3) post 167 [some (.ref 89), some (.int (nI p)), some (.long (lN (fSm g fr c v p 2 9))), none, some (.long (lN (fSm g fr c v p 1 9))), none, some (.long (lN (fSm g fr c v p 0 9))), none, some (.int (nI (sSum (sWt g fr c p) 9))), some (.int (nI 9)), v10, v11] [.int x, .int ((3 : Int32) * nI p + nI 1), .ref 90] J L (zR1 (some O, fo, some fA)) := fun J jf je x hx => by
    have nx := at194 (zup J 90 (3 * p + 1) x) (fOd_up jf (by omega) (by omega)) (fun e he d => by
      rw [zup_eq]
      by_cases d1 : e = 1
      · rw [d1, if_pos rfl, hx]
      · rw [if_neg (by omega), show e = 2 by omega]
        exact je)
    refine b172_167 (And.intro (vp 1 (by decide)) ?_)
    rw [put 1 (by decide)]
    exact pk_le (sSum (sWt g fr c p) 9) 0 (fun z => b172_192 (nx 1000000000 (by rw [ob0 z, if_pos rfl]; rfl))) (fun z => And.intro (ne0 z) (nx _ (dv z 0))) rfl rfl (by omega) (by omega)
  have at141 : ∀ x : Int32, x = nI (sOB g fr c v p 2) → zQ G 172 (n + 3) post 141 [some (.ref 89), some (.int (nI p)), some (.long (lN (fSm g fr c v p 2 9))), none, some (.long (lN (fSm g fr c v p 1 9))), none, some (.long (lN (fSm g fr c v p 0 9))), none, some (.int (nI (sSum (sWt g fr c p) 9))), some (.int (nI 9)), v10, v11] [.int x, .int ((3 : Int32) * nI p + nI 2), .ref 90] I L (zR1 (some O, fo, some fA)) := fun x hx => by
    have nx := at167 (zup I 90 (3 * p + 2) x) (fOd_up (fun _ _ _ => rfl) (by omega) (by omega)) (by rw [zup_eq, if_pos rfl, hx])
    refine b172_141 (And.intro (vp 2 (by decide)) ?_)
    rw [put 2 (by decide)]
    exact pk_le (sSum (sWt g fr c p) 9) 0 (fun z => b172_166 (nx 0 (by rw [ob0 z, if_neg (by decide)]; rfl))) (fun z => And.intro (ne0 z) (nx _ (dv z 1))) rfl rfl (by omega) (by omega)
  exact b172_117 (pk_le (sSum (sWt g fr c p) 9) 0 (fun z => b172_140 (at141 0 (by rw [ob0 z, if_neg (by decide)]; rfl))) (fun z => And.intro (ne0 z) (at141 _ (dv z 2))) rfl rfl (by omega) (by omega))
end
