-- ===== the reference: odds of a foe, of all =====
section
variable {G : zG} {n : Nat} {I : zI} {L : zL} {q : zq} {post : zPo} {g : zg} {c : sC} {w : uW} {fr : Nat → Nat} {f : Nat} {F : zfo}
theorem od_foe {d p N deep : Nat} (ih : ∀ d', d' < d → OdP G g fr c f F q d') (hd : sDep g p = d) (hr : sR g p) (hwk : sWork g p < 2) (hN : 3 * d + 11 ≤ N) (hdeep : deep + d ≤ 20) (hf : f < 8) (hok : foOk F) (h1 : F.1 ≠ 1) (hw : oW g fr c f F I L) (hq : oQ g (sOd g fr c F) d p I L) (h : ∀ (I' : zI) (L' : zL), oW g fr c f F I' L' → oQ g (sOd g fr c F) d p I' L' → (∀ e, e < 3 → L' 25 (3 * p + e) = lN (sOF g F (sOd g fr c F) p e)) → oBr g d p (3 * deep) (3 * deep) I L I' L' → post none I' L' (zR1 q)) : zC G N 96 [.ref 0, .int (nI p), .int (nI f), .int (nI deep)] I L (zR1 q) post := by
  obtain ⟨hg, hm, hfr, hc, hF⟩ := id hw
  have hp := sR_ok hg.1 hr
  have hp1 := hp.1
  have hd1 := od_d1 hg.1 hd hwk
  have hk14 := hok.1
  obtain ⟨N, rfl⟩ : ∃ N', N = N' + 11 := ⟨N - 11, by omega⟩
  have e3 : (3 : Int32) * nI deep = nI (3 * deep) := pk_mul 3 deep
  have ep : (3 : Int32) * nI p = nI (3 * p) := pk_mul 3 p
  have ecf : (nI f).toNatClampNeg = f := nI_clamp (by omega)
  have inf : vp_in (nI f) 8 := vp_in_nI hf (by decide)
  have hs := foSum hok F.1 (Nat.le_refl _)
  have hPl : ∀ i e, sPO g F (sOd g fr c F) p i e ≤ 1000000000 := fun i e => sPO_le fun x => sOd_le g fr c F x e
  have hle : ∀ e, sSum (fun i => F.2.2.1 i * sPO g F (sOd g fr c F) p i e) F.1 ≤ 1000000000 * sSum F.2.2.1 F.1 := fun e => sSum_wb (fun i => hPl i e) _
  -- dividing
  have fin : ∀ (I' : zI) (L' : zL), oW g fr c f F I' L' → oQ g (sOd g fr c F) d p I' L' → (∀ e, e < 3 → L' 28 (3 * deep + e) = lN (sSum (fun i => F.2.2.1 i * sPO g F (sOd g fr c F) p i e) F.1)) → oBr g d p (3 * deep) (3 * deep) I L I' L' → zQ G 96 (N + 10) post 132 [some (.ref 0), some (.int (nI p)), some (.int (nI f)), some (.int (nI deep)), some (.int (nI (3 * deep))), some (.int (nI (sSum F.2.2.1 F.1))), none, none, none] [] I' L' (zR1 q) := by
    intro I' L' hw' hq' h8 hb
    have key : ∀ j i : Nat, i + j = 3 → zQ G 96 (N + 10) post 135 [some (.ref 0), some (.int (nI p)), some (.int (nI f)), some (.int (nI deep)), some (.int (nI (3 * deep))), some (.int (nI (sSum F.2.2.1 F.1))), some (.int (nI i)), none, none] [] I' (lSet L' 25 (3 * p) i fun e => lN (sOF g F (sOd g fr c F) p e)) (zR1 q) := by
      intro j
      induction j with
      | zero =>
        intro i hi
        have e : i = 3 := by omega
        subst e
        refine b96_135 (pk_le 3 3 (fun _ => b96_172 ?_) (fun z => absurd z (by omega)) rfl rfl (by omega) (by omega))
        exact h I' _ (oW_of hw' (fun _ _ => rfl) (lSet_ne (by decide))) (oQ_5 _ _ (by omega) hq') (fun e he => lSet_in he) (oBr_tr hb (oBr_5 _ _ _ _ (by omega)))
      | succ j ihj =>
        intro i hi
        have qq := ihj (i + 1) (by omega)
        have e1 : (3 : Int32) * nI p + nI i = nI (3 * p + i) := by rw [ep, nI_add]
        have e2 : nI (3 * deep) + nI i = nI (3 * deep + i) := nI_add _ _
        have i1 : vp_in ((3 : Int32) * nI p + nI i) 59049 := by rw [e1]; exact vp_in_nI (by omega) (by decide)
        have i2 : vp_in (nI (3 * deep) + nI i) 132 := by rw [e2]; exact vp_in_nI (by omega) (by decide)
        have el : (nI (sSum F.2.2.1 F.1)).toInt64 = lN (sSum F.2.2.1 F.1) := nI_l (by omega)
        have hli := hle i
        have ev : lSet L' 25 (3 * p) i (fun e => lN (sOF g F (sOd g fr c F) p e)) 28 (nI (3 * deep) + nI i).toNatClampNeg / (nI (sSum F.2.2.1 F.1)).toInt64 = lN (sOF g F (sOd g fr c F) p i) := by
          rw [e2, nI_clamp (by omega), lSet_ne (by decide), h8 i (by omega), el, pk_lDiv (by omega) (by omega) (by omega)]
          unfold sOF
          rw [if_neg h1]
        refine b96_135 (pk_le 3 i (fun z2 => absurd z2 (by omega)) (fun _ => And.intro i2 (And.intro ?_ (And.intro i1 ?_))) rfl rfl (by omega) (by omega))
        · show ¬ (nI (sSum F.2.2.1 F.1)).toInt64 = 0
          rw [el]
          exact fun w => by have := (pk_lEQ (b := 0) (by omega) (by omega)).mp w; omega
        · show zP G 96 (N + 10) zNN zNN post 135 _ [] zNN I' (zup (lSet L' 25 (3 * p) i fun e => lN (sOF g F (sOd g fr c F) p e)) 25 ((3 : Int32) * nI p + nI i).toNatClampNeg (lSet L' 25 (3 * p) i (fun e => lN (sOF g F (sOd g fr c F) p e)) 28 (nI (3 * deep) + nI i).toNatClampNeg / (nI (sSum F.2.2.1 F.1)).toInt64)) (zR1 q)
          rw [ev, e1, nI_clamp (by omega), lSet_s L' 25 (3 * p) i fun e => lN (sOF g F (sOd g fr c F) p e)]
          rw [← nI_1] at qq
          exact qq
    have qq := key 3 0 (by omega)
    rw [lSet_0] at qq
    exact b96_132 qq
  have loop : ∀ j i : Nat, i + j = F.1 → ∀ (I' : zI) (L' : zL), oW g fr c f F I' L' → oQ g (sOd g fr c F) d p I' L' → (∀ e, e < 3 → L' 28 (3 * deep + e) = lN (sSum (fun i => F.2.2.1 i * sPO g F (sOd g fr c F) p i e) i)) → oBr g d p (3 * deep) (3 * deep) I L I' L' → zQ G 96 (N + 10) post 37 [some (.ref 0), some (.int (nI p)), some (.int (nI f)), some (.int (nI deep)), some (.int (nI (3 * deep))), some (.int (nI (sSum F.2.2.1 i))), some (.int (nI i)), none, none] [] I' L' (zR1 q) := by
    intro j
    induction j with
    | zero =>
      intro i hi I' L' hw' hq' h8 hb
      have e : i = F.1 := by omega
      subst e
      have e10 : I' 10 (nI f).toNatClampNeg = nI F.1 := by rw [ecf]; exact hw'.2.2.2.2.1
      refine b96_37 (And.intro inf (pk_le F.1 F.1 (fun _ => zP_lv (by exact ⟨rfl, rfl, rfl, rfl, rfl, rfl, trivial⟩) (fin I' L' hw' hq' h8 hb)) (fun z => absurd z (by omega)) e10 rfl (by omega) (by omega)))
    | succ j ihj =>
      intro i hi I' L' hw' hq' h8 hb
      have hF' := hw'.2.2.2.2
      have hi1 : i < F.1 := by omega
      have e10 : I' 10 (nI f).toNatClampNeg = nI F.1 := by rw [ecf]; exact hF'.1
      have e14 : (14 : Int32) * nI f + nI i = nI (14 * f + i) := by rw [show (14 : Int32) = nI 14 from rfl, pk_mul, nI_add]
      have in14 : vp_in ((14 : Int32) * nI f + nI i) 112 := by rw [e14]; exact vp_in_nI (by omega) (by decide)
      have esh : I' 12 ((14 : Int32) * nI f + nI i).toNatClampNeg = nI (F.2.2.1 i) := by rw [e14, nI_clamp (by omega)]; exact (hF'.2 i hi1).2.1
      have osh := (hok.2 i hi1).2.1
      refine b96_37 (And.intro inf (pk_le F.1 i (fun z => absurd z (by omega)) (fun _ => And.intro in14 ?_) e10 rfl (by omega) (by omega)))
      show zC G (N + 10) 95 [.ref 0, .int (nI p), .int (nI f), .int ((14 : Int32) * nI f + nI i), .int (nI deep)] I' L' (zR1 q) _
      rw [e14]
      refine od_part ih hd hr hwk (by omega) hdeep hf hok hi1 hw' hq' fun I2 L2 y1 y2 y3 y4 => ?_
      have y8 : ∀ e, e < 3 → L2 28 (3 * deep + e) = lN (sSum (fun i => F.2.2.1 i * sPO g F (sOd g fr c F) p i e) i) := fun e he => (y4.2.2.1.2 _ (by omega)).trans (h8 e he)
      have add : ∀ j k : Nat, k + j = 3 → zQ G 96 (N + 10) post 79 [some (.ref 0), some (.int (nI p)), some (.int (nI f)), some (.int (nI deep)), some (.int (nI (3 * deep))), some (.int (nI (sSum F.2.2.1 i))), some (.int (nI i)), some (.int (nI (F.2.2.1 i))), some (.int (nI k))] [] I2 (lSet L2 28 (3 * deep) k fun e => lN (sSum (fun i => F.2.2.1 i * sPO g F (sOd g fr c F) p i e) (i + 1))) (zR1 q) := by
        intro j
        induction j with
        | zero =>
          intro k hk
          have e : k = 3 := by omega
          subst e
          refine b96_79 (pk_le 3 3 (fun _ => b96_119 ?_) (fun z => absurd z (by omega)) rfl rfl (by omega) (by omega))
          have qq := ihj (i + 1) (by omega) I2 _ (oW_of y1 (fun _ _ => rfl) (lSet_ne (by decide))) (oQ_8 _ _ y2) (fun e he => lSet_in he) (oBr_tr hb (oBr_tr (oBr_le y4 (by omega) (by omega)) (oBr_8 _ _ _ _ (Nat.le_refl _))))
          rw [show sSum F.2.2.1 (i + 1) = sSum F.2.2.1 i + F.2.2.1 i from rfl, ← nI_add, ← nI_1] at qq
          exact zP_lv (by exact ⟨rfl, rfl, rfl, rfl, rfl, rfl, rfl, trivial⟩) qq
        | succ j ihk =>
          intro k hk
          have qq := ihk (k + 1) (by omega)
          have e2 : nI (3 * deep) + nI k = nI (3 * deep + k) := nI_add _ _
          have i2 : vp_in (nI (3 * deep) + nI k) 132 := by rw [e2]; exact vp_in_nI (by omega) (by decide)
          have e1 : (3 : Int32) * nI p + nI k = nI (3 * p + k) := by rw [ep, nI_add]
          have i1 : vp_in ((3 : Int32) * nI p + nI k) 59049 := by rw [e1]; exact vp_in_nI (by omega) (by decide)
          have ev : lSet L2 28 (3 * deep) k (fun e => lN (sSum (fun i => F.2.2.1 i * sPO g F (sOd g fr c F) p i e) (i + 1))) 28 (nI (3 * deep) + nI k).toNatClampNeg + (nI (F.2.2.1 i)).toInt64 * lSet L2 28 (3 * deep) k (fun e => lN (sSum (fun i => F.2.2.1 i * sPO g F (sOd g fr c F) p i e) (i + 1))) 25 ((3 : Int32) * nI p + nI k).toNatClampNeg = lN (sSum (fun i => F.2.2.1 i * sPO g F (sOd g fr c F) p i k) (i + 1)) := by
            rw [e2, e1, nI_clamp (by omega), nI_clamp (by omega), lSet_out (by omega), lSet_ne (by decide), y8 k (by omega), y3 k (by omega), nI_l (by omega), lN_acc]
            rfl
          refine b96_79 (pk_le 3 k (fun z => absurd z (by omega)) (fun _ => And.intro ⟨rfl, rfl⟩ (And.intro i2 (And.intro i1 (And.intro i2 ?_)))) rfl rfl (by omega) (by omega))
          show zP G 96 (N + 10) zNN zNN post 79 _ [] zNN I2 (zup (lSet L2 28 (3 * deep) k fun e => lN (sSum (fun i => F.2.2.1 i * sPO g F (sOd g fr c F) p i e) (i + 1))) 28 (nI (3 * deep) + nI k).toNatClampNeg (lSet L2 28 (3 * deep) k (fun e => lN (sSum (fun i => F.2.2.1 i * sPO g F (sOd g fr c F) p i e) (i + 1))) 28 (nI (3 * deep) + nI k).toNatClampNeg + (nI (F.2.2.1 i)).toInt64 * lSet L2 28 (3 * deep) k (fun e => lN (sSum (fun i => F.2.2.1 i * sPO g F (sOd g fr c F) p i e) (i + 1))) 25 ((3 : Int32) * nI p + nI k).toNatClampNeg)) (zR1 q)
          rw [ev, e2, nI_clamp (by omega), lSet_s L2 28 (3 * deep) k fun e => lN (sSum (fun i => F.2.2.1 i * sPO g F (sOd g fr c F) p i e) (i + 1))]
          rw [← nI_1] at qq
          exact qq
      have qq := add 3 0 (by omega)
      rw [lSet_0, ← esh, e14] at qq
      exact qq
  have zero : ∀ j i : Nat, i + j = 3 → zQ G 96 (N + 10) post 11 [some (.ref 0), some (.int (nI p)), some (.int (nI f)), some (.int (nI deep)), some (.int (nI (3 * deep))), some (.int 0), some (.int (nI i)), none, none] [] I (lSet L 28 (3 * deep) i fun _ => 0) (zR1 q) := by
    intro j
    induction j with
    | zero =>
      intro i hi
      have e : i = 3 := by omega
      subst e
      refine b96_11 (pk_le 3 3 (fun _ => b96_34 ?_) (fun z => absurd z (by omega)) rfl rfl (by omega) (by omega))
      exact loop F.1 0 (by omega) I _ (oW_of hw (fun _ _ => rfl) (lSet_ne (by decide))) (oQ_8 _ _ hq) (fun e he => lSet_in he) (oBr_8 _ _ _ _ (Nat.le_refl _))
    | succ j ihj =>
      intro i hi
      have qq := ihj (i + 1) (by omega)
      have e2 : nI (3 * deep) + nI i = nI (3 * deep + i) := nI_add _ _
      have i2 : vp_in (nI (3 * deep) + nI i) 132 := by rw [e2]; exact vp_in_nI (by omega) (by decide)
      refine b96_11 (pk_le 3 i (fun z => absurd z (by omega)) (fun _ => And.intro i2 ?_) rfl rfl (by omega) (by omega))
      show zP G 96 (N + 10) zNN zNN post 11 _ [] zNN I (zup (lSet L 28 (3 * deep) i fun _ => 0) 28 (nI (3 * deep) + nI i).toNatClampNeg 0) (zR1 q)
      rw [e2, nI_clamp (by omega), lSet_s L 28 (3 * deep) i fun _ => 0]
      rw [← nI_1] at qq
      exact qq
  have qq := zero 3 0 (by omega)
  rw [lSet_0, ← e3] at qq
  exact zin0 rfl rfl rfl (b96_0 qq)
theorem od_all (hgo : gOk g) (hall : cAll c) (hf : f < 8) (hok : foOk F) (d : Nat) : OdP G g fr c f F q d := by
  induction d using Nat.strongRecOn with
  | _ d ih =>
    intro p N deep I L post hd hN hdeep hw hr hpre h
    obtain ⟨hg, hm, hfr, hc, hF⟩ := id hw
    have hp := sR_ok hg.1 hr
    have hp1 := hp.1
    have h8 := hg.1.2.2.2.2.2.2.2.2
    have hwk4 := sWork_le g p
    obtain ⟨N, rfl⟩ : ∃ N', N = N' + 12 := ⟨N - 12, by omega⟩
    have ep : (3 : Int32) * nI p = nI (3 * p) := pk_mul 3 p
    have ec : (nI p).toNatClampNeg = p := nI_clamp (by omega)
    have inp : vp_in (nI p) 19683 := vp_in_nI hp1 (by decide)
    refine zin0 rfl rfl rfl (b93_0 (And.intro inp ?_))
    show (I 26 (nI p).toNatClampNeg = 0 → _) ∧ (¬ I 26 (nI p).toNatClampNeg = 0 → _)
    rw [ec]
    refine And.intro (fun z => b93_10 (And.intro inp ?_)) (fun z => ?_)
    · obtain ⟨I1, hI1⟩ : ∃ I1 : zI, I1 = zup I 26 p 1 := ⟨_, rfl⟩
      have hI1o : ∀ o, o ≠ 26 → I1 o = I o := fun o ho => by rw [hI1, zup_ne ho]
      have hI26 : ∀ x, I1 26 x = if x = p then 1 else I 26 x := fun x => by rw [hI1, zup_eq]
      have hw1 := oW_of hw hI1o rfl
      have hq1 : oQ g (sOd g fr c F) d p I1 L := ⟨fun x hx => by
        rw [hI26]
        by_cases d2 : x = p
        · rw [if_pos d2]; exact Or.inr rfl
        · rw [if_neg d2]; exact hpre.1 x hx, fun x hx hxp h1 hdx => by
        rw [hI26, if_neg hxp] at h1
        exact hpre.2 x hx h1 hdx⟩
      have done : ∀ (I' : zI) (L' : zL), oQ g (sOd g fr c F) d p I' L' → (∀ e, e < 3 → L' 25 (3 * p + e) = lN (sOd g fr c F p e)) → oBr g d p (3 * deep) (3 * deep) I1 L I' L' → post none I' L' (zR1 q) := by
        intro I' L' y1 y2 y3
        refine h I' L' ⟨y1.1, fun x hx h1 hdx => ?_⟩ (y3.2.1 p (by rw [hI26, if_pos rfl])) ⟨fun x hx => ⟨?_, (y3.1 x (by omega)).2 (fun z => by subst z; omega)⟩, fun x hx => y3.2.1 x ?_, y3.2.2.1, fun o ho => (y3.2.2.2.1 o ho).trans (hI1o o ho), y3.2.2.2.2⟩
        · by_cases d2 : x = p
          · subst d2; exact y2
          · exact y1.2 x hx d2 h1 hdx
        · rw [(y3.1 x (by omega)).1, hI26, if_neg (fun z => by subst z; omega)]
        · rw [hI26]
          split
          · rfl
          · exact hx
      have es : I1 2 (nI p).toNatClampNeg = nI (sWork g p) := by rw [ec, hI1o 2 (by decide)]; exact (mPos_R hg.1 hm hr).2.1
      have zero : ∀ j i : Nat, i + j = 3 → zQ G 93 (N + 11) post 25 [some (.ref 0), some (.int (nI p)), some (.int (nI f)), some (.int (nI deep)), some (.int (nI (3 * p))), some (.int (nI i))] [] I1 (lSet L 25 (3 * p) i fun _ => 0) (zR1 q) := by
        intro j
        induction j with
        | zero =>
          intro i hi
          have e : i = 3 := by omega
          subst e
          have hw2 : oW g fr c f F I1 (lSet L 25 (3 * p) 3 fun _ => 0) := oW_of hw1 (fun _ _ => rfl) (lSet_ne (by decide))
          have hq2 : oQ g (sOd g fr c F) d p I1 (lSet L 25 (3 * p) 3 fun _ => 0) := oQ_5 _ _ (by omega) hq1
          have hb2 : oBr g d p (3 * deep) (3 * deep) I1 L I1 (lSet L 25 (3 * p) 3 fun _ => 0) := oBr_5 _ _ _ _ (by omega)
          have e8 : I1 0 8 = nI (g 8) := mG0 hw1.1 8 (by decide)
          refine b93_25 (pk_le 3 3 (fun _ => b93_48 (And.intro inp ?_)) (fun z => absurd z (by omega)) rfl rfl (by omega) (by omega))
          refine pk_lt (sWork g p) 2 (fun z => b93_76 (And.intro inp ?_)) (fun z => ?_) es rfl (by omega) (by omega)
          · refine pk_ne (sWork g p) (g 8) (fun z2 => b93_99 (And.intro (vp_in_nI hf (by decide)) ?_)) (fun z2 => ?_) es e8 (by omega) (by omega)
            · have e10 : I1 10 (nI f).toNatClampNeg = nI F.1 := by rw [nI_clamp (by omega)]; exact hw1.2.2.2.2.1
              have hk14 := hok.1
              have hv : ∀ e, sOd g fr c F p e = sOF g F (sOd g fr c F) p e := fun e => by rw [sOd_eq hg.1, if_pos z, if_neg z2]
              refine pk_ne F.1 1 (fun z3 => b93_123 ?_) (fun z3 => ?_) e10 rfl (by omega) (by omega)
              · exact od_foe ih hd hr z (by omega) hdeep hf hok z3 hw2 hq2 fun I' L' _ y1 y2 y3 => b93_130 (done I' L' y1 (fun e he => by rw [y2 e he, hv]) (oBr_tr hb2 y3))
              · show zC G (N + 11) 95 [.ref 0, .int (nI p), .int (nI f), .int ((14 : Int32) * nI f), .int (nI deep)] I1 (lSet L 25 (3 * p) 3 fun _ => 0) (zR1 q) _
                rw [show (14 : Int32) * nI f = nI (14 * f + 0) from pk_mul 14 f]
                refine od_part ih hd hr z (by omega) hdeep hf hok (k := 0) (by omega) hw2 hq2 fun I' L' _ y1 y2 y3 => b93_130 (done I' L' y1 (fun e he => ?_) (oBr_tr hb2 (oBr_le y3 (Nat.le_refl _) (by omega))))
                rw [y2 e he, hv]
                unfold sOF
                rw [if_pos z3]
            · have hv : ∀ e, sOd g fr c F p e = sOB g fr c (sOd g fr c F) p e := fun e => by rw [sOd_eq hg.1, if_pos z, if_pos z2]
              exact od_box ih hd hr z2 (by omega) hdeep hw2 hall hq2 (fun e he => lSet_in he) fun I' L' _ y1 y2 y3 => b93_130 (done I' L' y1 (fun e he => by rw [y2 e he, hv]) (oBr_tr hb2 y3))
          · have hel := sEnd_le g p
            have hv : ∀ e, sOd g fr c F p e = if e = sEnd g p then 1000000000 else 0 := fun e => by rw [sOd_eq hg.1, if_neg (by omega)]
            refine c_endOf hw1.1 hw1.2.1 hr z ?_
            have e1 : nI (3 * p) + nI (sEnd g p) = nI (3 * p + sEnd g p) := nI_add _ _
            refine And.intro (by rw [e1]; exact vp_in_nI (by omega) (by decide)) ?_
            show post none I1 (zup (lSet L 25 (3 * p) 3 fun _ => 0) 25 (nI (3 * p) + nI (sEnd g p)).toNatClampNeg 1000000000) (zR1 q)
            have e2 : zup (lSet L 25 (3 * p) 3 fun _ => 0) 25 (nI (3 * p) + nI (sEnd g p)).toNatClampNeg 1000000000 = lSet L 25 (3 * p) 3 fun e => if e = sEnd g p then 1000000000 else 0 := by
              rw [e1, nI_clamp (by omega)]
              funext a x
              unfold zup lSet
              by_cases c1 : a = 25
              · rw [if_pos c1, if_pos c1, if_pos c1]
                by_cases c2 : x = 3 * p + sEnd g p
                · rw [if_pos c2, if_pos (by omega)]
                  dsimp only
                  rw [if_pos (by omega)]
                · rw [if_neg c2]
                  by_cases c3 : 3 * p ≤ x ∧ x < 3 * p + 3
                  · rw [if_pos c3, if_pos c3]
                    dsimp only
                    rw [if_neg (by omega)]
                  · rw [if_neg c3, if_neg c3]
              · rw [if_neg c1, if_neg c1, if_neg c1]
            rw [e2]
            refine done I1 _ (oQ_5 _ _ (by omega) hq1) (fun e he => ?_) (oBr_5 _ _ _ _ (by omega))
            rw [lSet_in he, hv]
            split <;> rfl
        | succ j ihj =>
          intro i hi
          have qq := ihj (i + 1) (by omega)
          have e2 : nI (3 * p) + nI i = nI (3 * p + i) := nI_add _ _
          have i2 : vp_in (nI (3 * p) + nI i) 59049 := by rw [e2]; exact vp_in_nI (by omega) (by decide)
          refine b93_25 (pk_le 3 i (fun z => absurd z (by omega)) (fun _ => And.intro i2 ?_) rfl rfl (by omega) (by omega))
          show zP G 93 (N + 11) zNN zNN post 25 _ [] zNN I1 (zup (lSet L 25 (3 * p) i fun _ => 0) 25 (nI (3 * p) + nI i).toNatClampNeg 0) (zR1 q)
          rw [e2, nI_clamp (by omega), lSet_s L 25 (3 * p) i fun _ => 0]
          rw [← nI_1] at qq
          exact qq
      have qq := zero 3 0 (by omega)
      rw [lSet_0, hI1, ← ep] at qq
      show zP G 93 (N + 11) zNN zNN post 25 _ [] zNN (zup I 26 (nI p).toNatClampNeg (vp_nar .boolean 1)) L (zR1 q)
      rw [ec, show vp_nar .boolean 1 = 1 by decide]
      exact qq
    · have z1 : I 26 p = 1 := by
        rcases hpre.1 p hp1 with w | w
        · exact absurd w z
        · exact w
      exact h I L hpre z1 ⟨fun _ _ => ⟨rfl, fun _ _ => rfl⟩, fun _ hx => hx, ⟨fun _ _ => rfl, fun _ _ => rfl⟩, fun _ _ => rfl, fun _ _ _ _ => rfl⟩
/-- what asking for odds touches -/
def tO (o : Nat) : Bool := Nat.beq o 25 || Nat.beq o 27 || Nat.beq o 28
theorem c_askOdds (hw : oW g fr c f F I L) (hall : cAll c) (hf : f < 8) (hok : foOk F) (h : ∀ (I' : zI) (L' : zL), (∀ e, e < 3 → L' 25 (3 * sFirst g + e) = lN (sOd g fr c F (sFirst g) e)) → (∀ o, o ≠ 26 → I' o = I o) → (∀ o, o ≠ 25 → o ≠ 27 → o ≠ 28 → L' o = L o) → post (some (.int (nI (3 * sFirst g)))) I' L' (zR1 q)) : zC G (n + 73) 97 [.ref 0, .int (nI f)] I L (zR1 q) post := by
  have hg := hw.1
  have hdf := sDep_first g hg.1
  have hfl := sR_lt hg.1 (sR_first g)
  have key : ∀ j i : Nat, i + j = 19683 → ∀ J : zI, (∀ x, x < i → J 26 x = 0) → (∀ o, o ≠ 26 → J o = I o) → zQ G 97 (n + 72) post 2 [some (.ref 0), some (.int (nI f)), some (.int (nI i))] [] J L (zR1 q) := by
    intro j
    induction j with
    | zero =>
      intro i hi J hJ ho
      have hwJ := oW_of hw ho rfl
      refine b97_2 (pk_le 19683 i (fun _ => b97_22 (c_first hwJ.1 ?_)) (fun z => absurd z (by omega)) rfl rfl (by omega) (by omega))
      show zC G (n + 72) 93 [.ref 0, .int (nI (sFirst g)), .int (nI f), .int (nI 0)] J L (zR1 q) _
      refine od_all hg.1 hall hf hok (sDep g (sFirst g)) (sFirst g) (n + 72) 0 J L _ rfl (by omega) (by omega) hwJ (sR_first g) ⟨fun x hx => Or.inl (hJ x (by omega)), fun x hx h1 => by rw [hJ x (by omega)] at h1; exact absurd h1 (by decide)⟩ fun I' L' y1 y2 y3 => ?_
      have hw' := oW_of hwJ y3.2.2.2.1 (y3.2.2.2.2 13 (by decide) (by decide) (by decide))
      refine c_first hw'.1 ?_
      have qq := h I' L' (y1.2 (sFirst g) hfl y2 (Nat.le_refl _)) (fun o hh => (y3.2.2.2.1 o hh).trans (ho o hh)) y3.2.2.2.2
      rw [show nI (3 * sFirst g) = (3 : Int32) * nI (sFirst g) from (pk_mul 3 _).symm] at qq
      exact qq
    | succ j ih =>
      intro i hi J hJ ho
      refine b97_2 (pk_le 19683 i (fun z => absurd z (by omega)) (fun _ => And.intro (vp_in_nI (by omega) (by decide)) ?_) rfl rfl (by omega) (by omega))
      have qq := ih (i + 1) (by omega) (zup J 26 (nI i).toNatClampNeg (vp_nar .boolean 0)) (fun x hx => ?_) (fun o hh => by rw [zup_ne hh]; exact ho o hh)
      · rw [← nI_1] at qq
        exact qq
      · rw [nI_clamp (by omega), zup_eq, show vp_nar .boolean 0 = 0 by decide]
        by_cases d : x = i
        · rw [if_pos d]
        · rw [if_neg d]
          exact hJ x (by omega)
  exact zin0 rfl rfl rfl (b97_0 (key 19683 0 (by omega) I (fun _ hx => absurd hx (by omega)) (fun _ _ => rfl)))
theorem oW_34 {v : Int32} (hw : oW g fr c f F I L) : oW g fr c f F (zup I 0 34 v) L := ⟨mG_34 hw.1, mPos_34 hw.2.1, mF_34 hw.2.2.1, mC_34 hw.2.2.2.1, by
  unfold mFo1
  rw [zup_ne (by decide), zup_ne (by decide), zup_ne (by decide), zup_ne (by decide)]
  exact hw.2.2.2.2⟩
/-- what odds and come touch of ints -/
def tOT (o k : Nat) : Bool := Nat.beq o 26 || tT o k
theorem c_odds {nf : Nat} (hw : oW g fr c f F I L) (hall : cAll c) (hf : f < nf) (h8 : nf ≤ 8) (h23 : I 0 23 = nI nf) (hok : foOk F) (h : ∀ (I' : zI) (L' : zL), mRow [lN (sOd g fr c F (sFirst g) 2), lN (sOd g fr c F (sFirst g) 1), lN (sOd g fr c F (sFirst g) 0)] I' L' → I' 0 34 = 0 → zFr tOT I I' → (∀ o, o ≠ 17 → o ≠ 25 → o ≠ 27 → o ≠ 28 → L' o = L o) → post (some (.int 0)) I' L' (zR1 q)) : zC G (n + 74) 98 [.ref 0, .int (nI f)] I L (zR1 q) post := by
  have hfl := sR_lt hw.1.1 (sR_first g)
  refine zin0 rfl rfl rfl (b98_0 (c_isFoe1 hf h8 h23 (And.intro (fun _ => b98_15 ?_) (fun z => absurd z (by decide)))))
  refine c_askOdds (oW_34 hw) hall (by omega) hok fun I1 L1 y1 y2 y3 => ?_
  obtain ⟨I2, hI2⟩ : ∃ I2 : zI, I2 = zup I1 0 33 0 := ⟨_, rfl⟩
  have e2 : nI (3 * sFirst g) + 2 = nI (3 * sFirst g + 2) := by rw [show (2 : Int32) = nI 2 from rfl, nI_add]
  have e1 : nI (3 * sFirst g) + 1 = nI (3 * sFirst g + 1) := nI_1 _
  have e0 : nI (3 * sFirst g) + 0 = nI (3 * sFirst g + 0) := by rw [show (0 : Int32) = nI 0 from rfl, nI_add]
  refine And.intro (by rw [e2]; exact vp_in_nI (by omega) (by decide)) ?_
  show zC G (n + 73) 4 [.ref 0, .long (L1 25 (nI (3 * sFirst g) + 2).toNatClampNeg)] (zup I1 0 33 0) L1 (zR1 q) _
  rw [e2, nI_clamp (by omega), y1 2 (by omega)]
  refine c_tell (l := []) (mRow_0 zup_self) (by show 0 < 32; omega) fun I3 L3 hr3 hf3 hl3 => ?_
  refine And.intro (by rw [e1]; exact vp_in_nI (by omega) (by decide)) ?_
  show zC G (n + 73) 4 [.ref 0, .long (L3 25 (nI (3 * sFirst g) + 1).toNatClampNeg)] I3 L3 (zR1 q) _
  rw [e1, nI_clamp (by omega), hl3 25 (by decide), y1 1 (by omega)]
  refine c_tell hr3 (by show 1 < 32; omega) fun I4 L4 hr4 hf4 hl4 => ?_
  refine And.intro (by rw [e0]; exact vp_in_nI (by omega) (by decide)) ?_
  show zC G (n + 73) 4 [.ref 0, .long (L4 25 (nI (3 * sFirst g) + 0).toNatClampNeg)] I4 L4 (zR1 q) _
  rw [e0, nI_clamp (by omega), hl4 25 (by decide), hl3 25 (by decide), y1 0 (by omega)]
  refine c_tell hr4 (by show 2 < 32; omega) fun I5 L5 hr5 hf5 hl5 => ?_
  refine h I5 L5 hr5 ?_ (fun o k z => ?_) fun o a1 a2 a3 a4 => ((hl5 o a1).trans ((hl4 o a1).trans (hl3 o a1))).trans (y3 o a2 a3 a4)
  · rw [hf5 0 34 (by omega), hf4 0 34 (by omega), hf3 0 34 (by omega)]
    show I1 0 34 = 0
    rw [y2 0 (by decide)]
    rfl
  · unfold tOT at z
    simp only [Bool.or_eq_false_iff] at z
    have z33 : ¬ (o = 0 ∧ k = 33) := fun ⟨a, b⟩ => by subst a b; cases z.2
    have z34 : ¬ (o = 0 ∧ k = 34) := fun ⟨a, b⟩ => by subst a b; cases z.2
    have z26 : o ≠ 26 := fun a => by subst a; cases z.1
    rw [hf5 o k z33, hf4 o k z33, hf3 o k z33]
    unfold zup
    by_cases d : o = 0
    · rw [if_pos d, if_neg (fun a => z33 ⟨d, a⟩), y2 o z26]
      unfold zup
      rw [if_pos d, if_neg (fun a => z34 ⟨d, a⟩)]
    · rw [if_neg d, y2 o z26]
      unfold zup
      rw [if_neg d]
theorem c_odds0 {nf : Nat} {x : Int32} (h8 : nf ≤ 8) (h23 : I 0 23 = nI nf) (hx : xOut x nf) (h : post (some (.int (-1))) (zup I 0 34 0) L (zR1 q)) : zC G (n + 3) 98 [.ref 0, .int x] I L (zR1 q) post := zin0 rfl rfl rfl (b98_0 (c_isFoe0 h8 h23 hx (And.intro (fun z => absurd rfl z) (fun _ => h))))
end
