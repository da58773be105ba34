-- ===== the reference: odds of foes =====
section
variable {G : zG} {n : Nat} {I : zI} {L : zL} {q : zq} {post : zPo} {g : zg} {c : sC} {w : uW} {fr : Nat → Nat} {f : Nat} {F : zfo}
theorem od_d1 {d p : Nat} (hg : gOk g) (hd : sDep g p = d) (hwk : sWork g p < 2) : 1 ≤ d := by
  obtain ⟨m, hm2⟩ := sCan_some hg hwk
  have := sDep_lt hg hm2
  omega
theorem od_part {d p k N deep : Nat} (ih : ∀ d', d' < d → OdP G g fr c f F q d') (hd : sDep g p = d) (hr : sR g p) (hwk : sWork g p < 2) (hN : 3 * d + 10 ≤ N) (hdeep : deep + d ≤ 20) (hf : f < 8) (hok : foOk F) (hk : k < F.1) (hw : oW g fr c f F I L) (hq : oQ g (sOd g fr c F) d p I L) (h : ∀ (I' : zI) (L' : zL), oW g fr c f F I' L' → oQ g (sOd g fr c F) d p I' L' → (∀ e, e < 3 → L' 25 (3 * p + e) = lN (sPO g F (sOd g fr c F) p k e)) → oBr g d p (3 * deep) (3 * deep + 3) I L I' L' → post none I' L' (zR1 q)) : zC G N 95 [.ref 0, .int (nI p), .int (nI f), .int (nI (14 * f + k)), .int (nI deep)] I L (zR1 q) post := by
  obtain ⟨hg, hm, hfr, hc, hF⟩ := id hw
  have hp := sR_ok hg.1 hr
  have hp1 := hp.1
  have hmm := sMM_pos hg.1
  have hd1 := od_d1 hg.1 hd hwk
  have hk14 := hok.1.2
  obtain ⟨N, rfl⟩ : ∃ N', N = N' + 10 := ⟨N - 10, by omega⟩
  have e3 : (3 : Int32) * nI deep = nI (3 * deep) := pk_mul 3 deep
  have ep : (3 : Int32) * nI p = nI (3 * p) := pk_mul 3 p
  have inb : vp_in (nI (14 * f + k)) 112 := vp_in_nI (by omega) (by decide)
  have ek : I 11 (nI (14 * f + k)).toNatClampNeg = nI (F.2.1 k) := by rw [nI_clamp (by omega)]; exact (hF.2 k hk).1
  obtain ⟨o1, -⟩ := hok.2 k hk
  refine zin0 rfl rfl rfl (b95_0 (And.intro inb ?_))
  refine pk_eq (F.2.1 k) 102 (fun z => b95_78 ?_) (fun z => ?_) ek rfl (by omega) (by omega)
  · have hcw := sCanW_pos hg.1 hwk
    have hcl := sCanW_le g p (sMM g)
    have hle : ∀ e, sSum (fun m => if sCan g p m = true then sOd g fr c F (sBeh g p m) e else 0) (sMM g) ≤ 1000000000 * sSum (sCanW g p) (sMM g) := fun e => sCanW_sum (fun m => sOd_le g fr c F _ e) _
    -- dividing
    have fin : ∀ (I' : zI) (L' : zL), oW g fr c f F I' L' → oQ g (sOd g fr c F) d p I' L' → (∀ e, e < 3 → L' 27 (3 * deep + e) = lN (sSum (fun m => if sCan g p m = true then sOd g fr c F (sBeh g p m) e else 0) (sMM g))) → oBr g d p (3 * deep) (3 * deep + 3) I L I' L' → zQ G 95 (N + 9) post 207 [some (.ref 0), some (.int (nI p)), some (.int (nI f)), some (.int (nI (14 * f + k))), some (.int (nI deep)), some (.int (nI (3 * p))), some (.int (nI (sSum (sCanW g p) (sMM g)))), some (.int (nI (3 * deep))), none, none, none] [] I' L' (zR1 q) := by
      intro I' L' hw' hq' h7 hb
      have key : ∀ j i : Nat, i + j = 3 → zQ G 95 (N + 9) post 210 [some (.ref 0), some (.int (nI p)), some (.int (nI f)), some (.int (nI (14 * f + k))), some (.int (nI deep)), some (.int (nI (3 * p))), some (.int (nI (sSum (sCanW g p) (sMM g)))), some (.int (nI (3 * deep))), some (.int (nI i)), none, none] [] I' (lSet L' 25 (3 * p) i fun e => lN (sPO g F (sOd g fr c F) p k e)) (zR1 q) := by
        intro j
        induction j with
        | zero =>
          intro i hi
          have e : i = 3 := by omega
          subst e
          refine b95_210 (pk_le 3 3 (fun _ => b95_246 ?_) (fun z => absurd z (by omega)) rfl rfl (by omega) (by omega))
          exact h I' _ (oW_of hw' (fun _ _ => rfl) (lSet_ne (by decide))) (oQ_5 _ _ (by omega) hq') (fun e he => lSet_in he) (oBr_tr hb (oBr_5 _ _ _ _ (by omega)))
        | succ j ihj =>
          intro i hi
          have qq := ihj (i + 1) (by omega)
          have e1 : nI (3 * p) + nI i = nI (3 * p + i) := nI_add _ _
          have e2 : nI (3 * deep) + nI i = nI (3 * deep + i) := nI_add _ _
          have i1 : vp_in (nI (3 * p) + nI i) 59049 := by rw [e1]; exact vp_in_nI (by omega) (by decide)
          have i2 : vp_in (nI (3 * deep) + nI i) 132 := by rw [e2]; exact vp_in_nI (by omega) (by decide)
          have el : (nI (sSum (sCanW g p) (sMM g))).toInt64 = lN (sSum (sCanW g p) (sMM g)) := nI_l (by omega)
          have hli := hle i
          have ev : lSet L' 25 (3 * p) i (fun e => lN (sPO g F (sOd g fr c F) p k e)) 27 (nI (3 * deep) + nI i).toNatClampNeg / (nI (sSum (sCanW g p) (sMM g))).toInt64 = lN (sPO g F (sOd g fr c F) p k i) := by
            rw [e2, nI_clamp (by omega), lSet_ne (by decide), h7 i (by omega), el, pk_lDiv (by omega) (by omega) (by omega)]
            unfold sPO
            rw [if_pos z]
          refine b95_210 (pk_le 3 i (fun z2 => absurd z2 (by omega)) (fun _ => And.intro i2 (And.intro ?_ (And.intro i1 ?_))) rfl rfl (by omega) (by omega))
          · show ¬ (nI (sSum (sCanW g p) (sMM g))).toInt64 = 0
            rw [el]
            exact fun w => by have := (pk_lEQ (b := 0) (by omega) (by omega)).mp w; omega
          · show zP G 95 (N + 9) zNN zNN post 210 _ [] zNN I' (zup (lSet L' 25 (3 * p) i fun e => lN (sPO g F (sOd g fr c F) p k e)) 25 (nI (3 * p) + nI i).toNatClampNeg (lSet L' 25 (3 * p) i (fun e => lN (sPO g F (sOd g fr c F) p k e)) 27 (nI (3 * deep) + nI i).toNatClampNeg / (nI (sSum (sCanW g p) (sMM g))).toInt64)) (zR1 q)
            rw [ev, e1, nI_clamp (by omega), lSet_s L' 25 (3 * p) i fun e => lN (sPO g F (sOd g fr c F) p k e)]
            rw [← nI_1] at qq
            exact qq
      have qq := key 3 0 (by omega)
      rw [lSet_0] at qq
      exact b95_207 qq
    -- the moves
    have moves : ∀ j i : Nat, i + j = sMM g → ∀ (I' : zI) (L' : zL), oW g fr c f F I' L' → oQ g (sOd g fr c F) d p I' L' → (∀ e, e < 3 → L' 27 (3 * deep + e) = lN (sSum (fun m => if sCan g p m = true then sOd g fr c F (sBeh g p m) e else 0) i)) → oBr g d p (3 * deep) (3 * deep + 3) I L I' L' → zQ G 95 (N + 9) post 116 [some (.ref 0), some (.int (nI p)), some (.int (nI f)), some (.int (nI (14 * f + k))), some (.int (nI deep)), some (.int (nI (3 * p))), some (.int (nI (sSum (sCanW g p) i))), some (.int (nI (3 * deep))), some (.int (nI i)), none, none] [] I' L' (zR1 q) := by
      intro j
      induction j with
      | zero =>
        intro i hi I' L' hw' hq' h7 hb
        have e : i = sMM g := by omega
        subst e
        refine b95_116 (c_moveMany hw'.1 (pk_le (sMM g) (sMM g) (fun _ => zP_lv (by exact ⟨rfl, rfl, rfl, rfl, rfl, rfl, rfl, rfl, trivial⟩) (fin I' L' hw' hq' h7 hb)) (fun z => absurd z (by omega)) rfl rfl (by omega) (by omega)))
      | succ j ihj =>
        intro i hi I' L' hw' hq' h7 hb
        have hg' := hw'.1
        refine b95_116 (c_moveMany hg' (pk_le (sMM g) i (fun z => absurd z (by omega)) (fun _ => c_can hg' hp (by omega) (zbo_ne (fun z2 => b95_138 ?_) (fun z2 => b95_201 ?_))) rfl rfl (by omega) (by omega)))
        · have hdl := sDep_lt hg.1 z2
          have hrn := sR_step hr hwk z2
          have hqn := sR_lt hg.1 hrn
          refine c_behind hg' hp z2 ?_
          show zC G (N + 9) 93 [.ref 0, .int (nI (sBeh g p i)), .int (nI f), .int (nI deep + 1)] I' L' (zR1 q) _
          rw [nI_1]
          refine od_child ih hd hrn (by omega) (by omega) hdeep hw' hq' fun I2 L2 y1 y2 y3 y4 y5 => ?_
          have y7 : ∀ e, e < 3 → L2 27 (3 * deep + e) = lN (sSum (fun m => if sCan g p m = true then sOd g fr c F (sBeh g p m) e else 0) i) := fun e he => (y5.2.2.1.1 _ (by omega)).trans (h7 e he)
          have es : ∀ e, sSum (fun m => if sCan g p m = true then sOd g fr c F (sBeh g p m) e else 0) (i + 1) = sSum (fun m => if sCan g p m = true then sOd g fr c F (sBeh g p m) e else 0) i + sOd g fr c F (sBeh g p i) e := fun e => by
            show _ + (if sCan g p i = true then _ else _) = _
            rw [if_pos z2]
          have add : ∀ j m : Nat, m + j = 3 → zQ G 95 (N + 9) post 161 [some (.ref 0), some (.int (nI p)), some (.int (nI f)), some (.int (nI (14 * f + k))), some (.int (nI deep)), some (.int (nI (3 * p))), some (.int (nI (sSum (sCanW g p) i))), some (.int (nI (3 * deep))), some (.int (nI i)), some (.int (nI (sBeh g p i))), some (.int (nI m))] [] I2 (lSet L2 27 (3 * deep) m fun e => lN (sSum (fun m => if sCan g p m = true then sOd g fr c F (sBeh g p m) e else 0) (i + 1))) (zR1 q) := by
            intro j
            induction j with
            | zero =>
              intro m hm3
              have e : m = 3 := by omega
              subst e
              refine b95_161 (pk_le 3 3 (fun _ => b95_198 (b95_201 ?_)) (fun z => absurd z (by omega)) rfl rfl (by omega) (by omega))
              have qq := ihj (i + 1) (by omega) I2 _ (oW_of y1 (fun _ _ => rfl) (lSet_ne (by decide))) (oQ_7 _ _ y2) (fun e he => lSet_in he) (oBr_tr hb (oBr_tr (oBr_le y5 (by omega) (by omega)) (oBr_7 _ _ _ _ (Nat.le_refl _))))
              rw [show sSum (sCanW g p) (i + 1) = sSum (sCanW g p) i + 1 by show _ + sCanW g p i = _; unfold sCanW; rw [if_pos z2], ← nI_1, ← nI_1 i] at qq
              exact zP_lv (by exact ⟨rfl, rfl, rfl, rfl, rfl, rfl, rfl, rfl, rfl, trivial⟩) qq
            | succ j ihk =>
              intro m hm3
              have qq := ihk (m + 1) (by omega)
              have e2 : nI (3 * deep) + nI m = nI (3 * deep + m) := nI_add _ _
              have i2 : vp_in (nI (3 * deep) + nI m) 132 := by rw [e2]; exact vp_in_nI (by omega) (by decide)
              have e1 : (3 : Int32) * nI (sBeh g p i) + nI m = nI (3 * sBeh g p i + m) := by rw [show (3 : Int32) = nI 3 from rfl, pk_mul, nI_add]
              have i1 : vp_in ((3 : Int32) * nI (sBeh g p i) + nI m) 59049 := by rw [e1]; exact vp_in_nI (by omega) (by decide)
              have ev : lSet L2 27 (3 * deep) m (fun e => lN (sSum (fun m => if sCan g p m = true then sOd g fr c F (sBeh g p m) e else 0) (i + 1))) 27 (nI (3 * deep) + nI m).toNatClampNeg + lSet L2 27 (3 * deep) m (fun e => lN (sSum (fun m => if sCan g p m = true then sOd g fr c F (sBeh g p m) e else 0) (i + 1))) 25 ((3 : Int32) * nI (sBeh g p i) + nI m).toNatClampNeg = lN (sSum (fun x => if sCan g p x = true then sOd g fr c F (sBeh g p x) m else 0) (i + 1)) := by
                rw [e2, e1, nI_clamp (by omega), nI_clamp (by omega), lSet_out (by omega), lSet_ne (by decide), y7 m (by omega), y3 m (by omega), lN_add, es]
              refine b95_161 (pk_le 3 m (fun z => absurd z (by omega)) (fun _ => And.intro ⟨rfl, rfl⟩ (And.intro i2 (And.intro i1 (And.intro i2 ?_)))) rfl rfl (by omega) (by omega))
              show zP G 95 (N + 9) zNN zNN post 161 _ [] zNN I2 (zup (lSet L2 27 (3 * deep) m fun e => lN (sSum (fun m => if sCan g p m = true then sOd g fr c F (sBeh g p m) e else 0) (i + 1))) 27 (nI (3 * deep) + nI m).toNatClampNeg (lSet L2 27 (3 * deep) m (fun e => lN (sSum (fun m => if sCan g p m = true then sOd g fr c F (sBeh g p m) e else 0) (i + 1))) 27 (nI (3 * deep) + nI m).toNatClampNeg + lSet L2 27 (3 * deep) m (fun e => lN (sSum (fun m => if sCan g p m = true then sOd g fr c F (sBeh g p m) e else 0) (i + 1))) 25 ((3 : Int32) * nI (sBeh g p i) + nI m).toNatClampNeg)) (zR1 q)
              rw [ev, e2, nI_clamp (by omega), lSet_s L2 27 (3 * deep) m fun e => lN (sSum (fun m => if sCan g p m = true then sOd g fr c F (sBeh g p m) e else 0) (i + 1))]
              rw [← nI_1] at qq
              exact qq
          have qq := add 3 0 (by omega)
          rw [lSet_0] at qq
          exact qq
        · have es : ∀ e, sSum (fun m => if sCan g p m = true then sOd g fr c F (sBeh g p m) e else 0) (i + 1) = sSum (fun m => if sCan g p m = true then sOd g fr c F (sBeh g p m) e else 0) i := fun e => by
            show _ + (if sCan g p i = true then _ else _) = _
            rw [if_neg (by rw [z2]; exact Bool.false_ne_true), Nat.add_zero]
          have qq := ihj (i + 1) (by omega) I' L' hw' hq' (fun e he => by rw [es, h7 e he]) hb
          rw [show sSum (sCanW g p) (i + 1) = sSum (sCanW g p) i by show _ + sCanW g p i = _; unfold sCanW; rw [if_neg (by rw [z2]; exact Bool.false_ne_true), Nat.add_zero], ← nI_1] at qq
          exact qq
    have zero : ∀ j i : Nat, i + j = 3 → zQ G 95 (N + 9) post 90 [some (.ref 0), some (.int (nI p)), some (.int (nI f)), some (.int (nI (14 * f + k))), some (.int (nI deep)), some (.int (nI (3 * p))), some (.int 0), some (.int (nI (3 * deep))), some (.int (nI i)), none, none] [] I (lSet L 27 (3 * deep) i fun _ => 0) (zR1 q) := by
      intro j
      induction j with
      | zero =>
        intro i hi
        have e : i = 3 := by omega
        subst e
        refine b95_90 (pk_le 3 3 (fun _ => b95_113 ?_) (fun z => absurd z (by omega)) rfl rfl (by omega) (by omega))
        exact moves (sMM g) 0 (by omega) I _ (oW_of hw (fun _ _ => rfl) (lSet_ne (by decide))) (oQ_7 _ _ hq) (fun e he => lSet_in he) (oBr_7 _ _ _ _ (Nat.le_refl _))
      | succ j ihj =>
        intro i hi
        have qq := ihj (i + 1) (by omega)
        have e2 : nI (3 * deep) + nI i = nI (3 * deep + i) := nI_add _ _
        have i2 : vp_in (nI (3 * deep) + nI i) 132 := by rw [e2]; exact vp_in_nI (by omega) (by decide)
        refine b95_90 (pk_le 3 i (fun z => absurd z (by omega)) (fun _ => And.intro i2 ?_) rfl rfl (by omega) (by omega))
        show zP G 95 (N + 9) zNN zNN post 90 _ [] zNN I (zup (lSet L 27 (3 * deep) i fun _ => 0) 27 (nI (3 * deep) + nI i).toNatClampNeg 0) (zR1 q)
        rw [e2, nI_clamp (by omega), lSet_s L 27 (3 * deep) i fun _ => 0]
        rw [← nI_1] at qq
        exact qq
    have qq := zero 3 0 (by omega)
    rw [lSet_0, ← e3, ← ep] at qq
    exact qq
  · have hcan := sFMv_can hg.1 (F := F) (k := k) hwk
    have hdl := sDep_lt hg.1 hcan
    have hrn := sR_step hr hwk hcan
    have hqn := sR_lt hg.1 hrn
    have hne : sBeh g p (sFMv g F k p) ≠ p := fun e => by rw [e] at hdl; omega
    refine c_foeMove hg hm hr hwk hf hok hF hk (c_behind hg hp hcan ?_)
    show zC G (N + 9) 93 [.ref 0, .int (nI (sBeh g p (sFMv g F k p))), .int (nI f), .int (nI deep + 1)] I L (zR1 q) _
    rw [nI_1]
    refine od_child ih hd hrn (by omega) (by omega) hdeep hw hq fun I2 L2 y1 y2 y3 y4 y5 => ?_
    have key : ∀ j i : Nat, i + j = 3 → zQ G 95 (N + 9) post 43 [some (.ref 0), some (.int (nI p)), some (.int (nI f)), some (.int (nI (14 * f + k))), some (.int (nI deep)), some (.int (nI (3 * p))), some (.int (nI (sBeh g p (sFMv g F k p)))), some (.int (nI i)), none, none, none] [] I2 (lSet L2 25 (3 * p) i fun e => lN (sPO g F (sOd g fr c F) p k e)) (zR1 q) := by
      intro j
      induction j with
      | zero =>
        intro i hi
        have e : i = 3 := by omega
        subst e
        refine b95_43 (pk_le 3 3 (fun _ => b95_77 ?_) (fun z => absurd z (by omega)) rfl rfl (by omega) (by omega))
        exact h I2 _ (oW_of y1 (fun _ _ => rfl) (lSet_ne (by decide))) (oQ_5 _ _ (by omega) y2) (fun e he => lSet_in he) (oBr_tr (oBr_le y5 (by omega) (by omega)) (oBr_5 _ _ _ _ (by omega)))
      | succ j ihj =>
        intro i hi
        have qq := ihj (i + 1) (by omega)
        have e1 : nI (3 * p) + nI i = nI (3 * p + i) := nI_add _ _
        have i1 : vp_in (nI (3 * p) + nI i) 59049 := by rw [e1]; exact vp_in_nI (by omega) (by decide)
        have e2 : (3 : Int32) * nI (sBeh g p (sFMv g F k p)) + nI i = nI (3 * sBeh g p (sFMv g F k p) + i) := by rw [show (3 : Int32) = nI 3 from rfl, pk_mul, nI_add]
        have i2 : vp_in ((3 : Int32) * nI (sBeh g p (sFMv g F k p)) + nI i) 59049 := by rw [e2]; exact vp_in_nI (by omega) (by decide)
        have ev : lSet L2 25 (3 * p) i (fun e => lN (sPO g F (sOd g fr c F) p k e)) 25 ((3 : Int32) * nI (sBeh g p (sFMv g F k p)) + nI i).toNatClampNeg = lN (sPO g F (sOd g fr c F) p k i) := by
          rw [e2, nI_clamp (by omega), lSet_out (by omega), y3 i (by omega)]
          unfold sPO
          rw [if_neg z]
        refine b95_43 (pk_le 3 i (fun z2 => absurd z2 (by omega)) (fun _ => And.intro i2 (And.intro i1 ?_)) rfl rfl (by omega) (by omega))
        show zP G 95 (N + 9) zNN zNN post 43 _ [] zNN I2 (zup (lSet L2 25 (3 * p) i fun e => lN (sPO g F (sOd g fr c F) p k e)) 25 (nI (3 * p) + nI i).toNatClampNeg (lSet L2 25 (3 * p) i (fun e => lN (sPO g F (sOd g fr c F) p k e)) 25 ((3 : Int32) * nI (sBeh g p (sFMv g F k p)) + nI i).toNatClampNeg)) (zR1 q)
        rw [ev, e1, nI_clamp (by omega), lSet_s L2 25 (3 * p) i fun e => lN (sPO g F (sOd g fr c F) p k e)]
        rw [← nI_1] at qq
        exact qq
    have qq := key 3 0 (by omega)
    rw [lSet_0, ← ep] at qq
    exact qq
end
