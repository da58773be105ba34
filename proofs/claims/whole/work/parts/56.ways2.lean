-- ===== the reference: all ways, foes; the call =====
section
variable {G : zG} {n : Nat} {I : zI} {L : zL} {q : zq} {post : zPo} {g : zg} {c : sC} {w : uW} {fr : Nat → Nat} {f nr nf : Nat} {F : zfo} {rl : zrl} {ru : Option Nat}
theorem wyR_last {a : zwa} {W X : List (Nat × Nat)} {b : Bool} {I1 : zI} {L1 : zL} (hW : wyR a W true I1 L1) (h : wyR (W.foldl wAcc a) X b I L) : wyR a (W ++ X) b I L := wyR_app (wyR_t hW).1 h
theorem sWc_le {F : zfo} (hok : foOk F) {ch k : Nat} (hk : k < F.1) : sWc F ch k ≤ ch := by
  unfold sWc
  split
  · exact Nat.le_refl _
  · exact zdiv_le (Nat.mul_le_mul_left ch (sSum_ge (f := F.2.2.1) F.1 hk))
/-- a foe's turn, in ways -/
theorem wy_foe {gs fu gl p N ch : Nat} {ds es : List (Nat × Nat)} {a : zwa} (ih : WyP G g fr nr rl ru f F q gs fu) (hgs : gs ≤ 3) (hgl : 1 ≤ gl ∧ gl ≤ gs) (hfu : gl * 22 + sDep g p < fu + 1) (hN : 3 * (gl * 22 + sDep g p) + 13 ≤ N) (hf8 : f < 8) (hok : foOk F) (hw : wyW g fr nr rl ru f F I L) (hr : sR g p) (hwp : sWork g p < 2) (hwk : sWork g p ≠ g 8) (hin : cIn g c) (hc : mC c I) (hu : mU (some es) I) (hroom : es.length + 1000 * gl + 19 * sDep g p ≤ 20000) (ha : mWy a I L) (hch : ch ≤ 1000000000) (hlen : ds.length + sDep g p ≤ 20) (hd : ∀ d, d ∈ ds → c.2.1 d.1 = true ∧ sHas g d.1 d.2 = true) (hdr : mDr (20 * (gs - gl)) ds I) (h : ∀ (b : Bool) (I' : zI) (L' : zL), wyR a (sWy g fr rl ru F (fu + 1) gl p c ds ch) b I' L' → mC c I' → mU (some es) I' → zFr tWy I I' → lWy L L' → (∀ j, j < 20 * (gs - gl) + ds.length → I' 21 j = I 21 j ∧ I' 22 j = I 22 j) → post (some (.int (zbo b))) I' L' (zR1 q)) : zC G N 104 [.ref 0, .int (nI (gs - gl)), .int (nI gs), .int (nI p), .int (nI ds.length), .long (lN ch), .int (nI f)] I L (zR1 q) post := by
  obtain ⟨hg, hm, hfr, hF, hrl⟩ := id hw
  have hgo := hg.1
  have hp := sR_ok hgo hr
  have hp1 := hp.1
  have hmm := sMM_pos hgo
  have hk14 := hok.1
  have hs := foSum hok F.1 (Nat.le_refl _)
  have hcw := sCanW_pos hgo hwp
  have hcl := sCanW_le g p (sMM g)
  have hd1 : 1 ≤ sDep g p := by
    obtain ⟨m, hm2⟩ := sCan_some hgo hwp
    have := sDep_lt hgo hm2
    omega
  obtain ⟨N, rfl⟩ : ∃ N', N = N' + 13 := ⟨N - 13, by omega⟩
  have ecf : (nI f).toNatClampNeg = f := nI_clamp (by omega)
  have inf : vp_in (nI f) 8 := vp_in_nI hf8 (by decide)
  have eS : sWy g fr rl ru F (fu + 1) gl p c ds ch = sCat (fun k => if F.2.1 k = 102 then sCat (fun m => if sCan g p m = true then sWy g fr rl ru F fu gl (sBeh g p m) c ds (sWc F ch k / sSum (sCanW g p) (sMM g)) else []) (sMM g) else sWy g fr rl ru F fu gl (sBeh g p (sFMv g F k p)) c ds (sWc F ch k)) F.1 := by
    rw [sWy, if_neg (by omega), if_pos hwp, if_neg hwk]
  rw [eS] at h
  generalize hf0 : (fun k => if F.2.1 k = 102 then sCat (fun m => if sCan g p m = true then sWy g fr rl ru F fu gl (sBeh g p m) c ds (sWc F ch k / sSum (sCanW g p) (sMM g)) else []) (sMM g) else sWy g fr rl ru F fu gl (sBeh g p (sFMv g F k p)) c ds (sWc F ch k)) = wf at h
  have wfk : ∀ k, wf k = if F.2.1 k = 102 then sCat (fun m => if sCan g p m = true then sWy g fr rl ru F fu gl (sBeh g p m) c ds (sWc F ch k / sSum (sCanW g p) (sMM g)) else []) (sMM g) else sWy g fr rl ru F fu gl (sBeh g p (sFMv g F k p)) c ds (sWc F ch k) := fun k => by rw [← hf0]
  -- what stands between
  have St : ∀ (I2 : zI) (L2 : zL), (mC c I2 ∧ mU (some es) I2 ∧ zFr tWy I I2 ∧ lWy L L2 ∧ ∀ j, j < 20 * (gs - gl) + ds.length → I2 21 j = I 21 j ∧ I2 22 j = I 22 j) → mDr (20 * (gs - gl)) ds I2 := fun I2 L2 hst j d hj => by
    have hjl := (List.getElem?_eq_some_iff.mp hj).1
    have y := hst.2.2.2.2 (20 * (gs - gl) + j) (by omega)
    rw [y.1, y.2]
    exact hdr j d hj
  -- going on at a move
  have go : ∀ (m ch2 : Nat) (a2 : zwa) (I2 : zI) (L2 : zL) (K : zPo), sCan g p m = true → ch2 ≤ 1000000000 → mWy a2 I2 L2 → (mC c I2 ∧ mU (some es) I2 ∧ zFr tWy I I2 ∧ lWy L L2 ∧ ∀ j, j < 20 * (gs - gl) + ds.length → I2 21 j = I 21 j ∧ I2 22 j = I 22 j) → (∀ (b : Bool) (I3 : zI) (L3 : zL), wyR a2 (sWy g fr rl ru F fu gl (sBeh g p m) c ds ch2) b I3 L3 → (mC c I3 ∧ mU (some es) I3 ∧ zFr tWy I I3 ∧ lWy L L3 ∧ ∀ j, j < 20 * (gs - gl) + ds.length → I3 21 j = I 21 j ∧ I3 22 j = I 22 j) → K (some (.int (zbo b))) I3 L3 (zR1 q)) → zC G (N + 12) 100 [.ref 0, .int (nI (gs - gl)), .int (nI gs), .int (nI (sBeh g p m)), .int (nI ds.length), .long (lN ch2), .int (nI f)] I2 L2 (zR1 q) K := by
    intro m ch2 a2 I2 L2 K hcan hch2 ha2 hst hK
    have hdl := sDep_lt hgo hcan
    obtain ⟨s1, s2, s3, s4, s5⟩ := id hst
    refine ih gl (sBeh g p m) (N + 12) ch2 c ds es a2 I2 L2 K (by omega) (by omega) (by omega) (wyW_of hw s3 s4) (sR_step hr hwp hcan) hin s1 s2 (by omega) ha2 hch2 (by omega) hd (St I2 L2 hst) fun b I3 L3 r3 hc3 hu3 hf3 hl3 hk3 => hK b I3 L3 r3 ⟨hc3, hu3, zFr_tr s3 hf3, lWy_tr s4 hl3, fun j hj => ?_⟩
    have y := hk3 j hj
    have y2 := s5 j hj
    exact ⟨y.1.trans y2.1, y.2.trans y2.2⟩
  -- the parts
  have parts : ∀ j i : Nat, i + j = F.1 → ∀ (I2 : zI) (L2 : zL), wyR a (sCat wf i) true I2 L2 → (mC c I2 ∧ mU (some es) I2 ∧ zFr tWy I I2 ∧ lWy L L2 ∧ ∀ j, j < 20 * (gs - gl) + ds.length → I2 21 j = I 21 j ∧ I2 22 j = I 22 j) → zQ G 104 (N + 12) post 45 [some (.ref 0), some (.int (nI (gs - gl))), some (.int (nI gs)), some (.int (nI p)), some (.int (nI ds.length)), some (.long (lN ch)), none, some (.int (nI f)), some (.int (nI (sSum F.2.2.1 F.1))), some (.int (nI i)), none, none, none, none, none] [] I2 L2 (zR1 q) := by
    intro j
    induction j with
    | zero =>
      intro i hi I2 L2 r2 hst
      have e : i = F.1 := by omega
      subst e
      have hw2 := wyW_of hw hst.2.2.1 hst.2.2.2.1
      have e10 : I2 10 (nI f).toNatClampNeg = nI F.1 := by rw [ecf]; exact hw2.2.2.2.1.1
      exact b104_45 (And.intro inf (pk_le F.1 F.1 (fun _ => b104_244 (And.intro rfl (h true I2 L2 r2 hst.1 hst.2.1 hst.2.2.1 hst.2.2.2.1 hst.2.2.2.2))) (fun w => absurd w (by omega)) e10 rfl (by omega) (by omega)))
    | succ j ihj =>
      intro i hi I2 L2 r2 hst
      have hi1 : i < F.1 := by omega
      have hw2 := wyW_of hw hst.2.2.1 hst.2.2.2.1
      obtain ⟨hW, haW⟩ := wyR_t r2
      obtain ⟨X, hX⟩ := sCat_le wf (i + 1) j
      have e10 : I2 10 (nI f).toNatClampNeg = nI F.1 := by rw [ecf]; exact hw2.2.2.2.1.1
      have e14 : (14 : Int32) * nI f + nI i = nI (14 * f + i) := by rw [show (14 : Int32) = nI 14 from rfl, pk_mul, nI_add]
      have in14 : vp_in (nI (14 * f + i)) 112 := vp_in_nI (by omega) (by decide)
      have ec14 : (nI (14 * f + i)).toNatClampNeg = 14 * f + i := nI_clamp (by omega)
      obtain ⟨x1, x2, x3, x4⟩ := hw2.2.2.2.1.2 i hi1
      obtain ⟨o1, o2, -⟩ := hok.2 i hi1
      have hwc := sWc_le hok (ch := ch) hi1
      -- behind the part
      have next : ∀ (I3 : zI) (L3 : zL), wyR a (sCat wf (i + 1)) true I3 L3 → (mC c I3 ∧ mU (some es) I3 ∧ zFr tWy I I3 ∧ lWy L L3 ∧ ∀ j, j < 20 * (gs - gl) + ds.length → I3 21 j = I 21 j ∧ I3 22 j = I 22 j) → zQ G 104 (N + 12) post 238 [some (.ref 0), some (.int (nI (gs - gl))), some (.int (nI gs)), some (.int (nI p)), some (.int (nI ds.length)), some (.long (lN ch)), none, some (.int (nI f)), some (.int (nI (sSum F.2.2.1 F.1))), some (.int (nI i)), none, none, none, none, none] [] I3 L3 (zR1 q) := by
        intro I3 L3 r3 hst3
        have qq := ihj (i + 1) (by omega) I3 L3 r3 hst3
        rw [← nI_1] at qq
        exact b104_238 qq
      have stop : ∀ (W : List (Nat × Nat)) (I3 : zI) (L3 : zL), (∃ Y, sCat wf F.1 = W ++ Y) → wyR a W false I3 L3 → (mC c I3 ∧ mU (some es) I3 ∧ zFr tWy I I3 ∧ lWy L L3 ∧ ∀ j, j < 20 * (gs - gl) + ds.length → I3 21 j = I 21 j ∧ I3 22 j = I 22 j) → post (some (.int 0)) I3 L3 (zR1 q) := by
        intro W I3 L3 ⟨Y, hY⟩ r3 hst3
        exact h false I3 L3 (by rw [hY]; exact wyR_f r3) hst3.1 hst3.2.1 hst3.2.2.1 hst3.2.2.2.1 hst3.2.2.2.2
      have eF : sCat wf F.1 = (sCat wf i ++ wf i) ++ X := by rw [show F.1 = i + 1 + j by omega, hX]; rfl
      -- with the chance
      have p98 : ∀ cx : Int64, cx = lN (sWc F ch i) → zQ G 104 (N + 12) post 98 [some (.ref 0), some (.int (nI (gs - gl))), some (.int (nI gs)), some (.int (nI p)), some (.int (nI ds.length)), some (.long (lN ch)), none, some (.int (nI f)), some (.int (nI (sSum F.2.2.1 F.1))), some (.int (nI i)), some (.int (nI (14 * f + i))), none, none, none, none] [.long cx] I2 L2 (zR1 q) := by
        intro cx hcx
        subst hcx
        have ek : I2 11 (nI (14 * f + i)).toNatClampNeg = nI (F.2.1 i) := by rw [ec14, x1]
        refine b104_98 (And.intro in14 ?_)
        refine pk_eq (F.2.1 i) 102 (fun z => b104_141 ?_) (fun z => ?_) ek rfl (by omega) (by omega)
        · -- counting
          have ewf : wf i = sCat (fun m => if sCan g p m = true then sWy g fr rl ru F fu gl (sBeh g p m) c ds (sWc F ch i / sSum (sCanW g p) (sMM g)) else []) (sMM g) := by rw [wfk, if_pos z]
          generalize hv0 : (fun m => if sCan g p m = true then sWy g fr rl ru F fu gl (sBeh g p m) c ds (sWc F ch i / sSum (sCanW g p) (sMM g)) else []) = vf at ewf
          have vfm : ∀ m, vf m = if sCan g p m = true then sWy g fr rl ru F fu gl (sBeh g p m) c ds (sWc F ch i / sSum (sCanW g p) (sMM g)) else [] := fun m => by rw [← hv0]
          have moves : ∀ j m : Nat, m + j = sMM g → ∀ (I3 : zI) (L3 : zL), wyR a (sCat wf i ++ sCat vf m) true I3 L3 → (mC c I3 ∧ mU (some es) I3 ∧ zFr tWy I I3 ∧ lWy L L3 ∧ ∀ j, j < 20 * (gs - gl) + ds.length → I3 21 j = I 21 j ∧ I3 22 j = I 22 j) → zQ G 104 (N + 12) post 185 [some (.ref 0), some (.int (nI (gs - gl))), some (.int (nI gs)), some (.int (nI p)), some (.int (nI ds.length)), some (.long (lN ch)), none, some (.int (nI f)), some (.int (nI (sSum F.2.2.1 F.1))), some (.int (nI i)), some (.int (nI (14 * f + i))), some (.long (lN (sWc F ch i))), none, some (.int (nI (sSum (sCanW g p) (sMM g)))), some (.int (nI m))] [] I3 L3 (zR1 q) := by
            intro j2
            induction j2 with
            | zero =>
              intro m hm2 I3 L3 r3 hst3
              have hw3 := wyW_of hw hst3.2.2.1 hst3.2.2.2.1
              have e : m = sMM g := by omega
              subst e
              exact b104_185 (c_moveMany hw3.1 (pk_le (sMM g) (sMM g) (fun _ => zP_lv (by exact ⟨rfl, rfl, rfl, rfl, rfl, rfl, rfl, rfl, rfl, trivial⟩) (next I3 L3 (by show wyR a (sCat wf i ++ wf i) true I3 L3; rw [ewf]; exact r3) hst3)) (fun w => absurd w (by omega)) rfl rfl (by omega) (by omega)))
            | succ j2 ihm =>
              intro m hm2 I3 L3 r3 hst3
              have hw3 := wyW_of hw hst3.2.2.1 hst3.2.2.2.1
              obtain ⟨hW3, haW3⟩ := wyR_t r3
              obtain ⟨Y, hY⟩ := sCat_le vf (m + 1) j2
              refine b104_185 (c_moveMany hw3.1 (pk_le (sMM g) m (fun w => absurd w (by omega)) (fun _ => c_can hw3.1 hp (by omega) (zbo_eq (fun z4 => b104_232 ?_) (fun z4 => ?_))) rfl rfl (by omega) (by omega)))
              · have qq := ihm (m + 1) (by omega) I3 L3 (by show wyR a (sCat wf i ++ (sCat vf m ++ vf m)) true I3 L3; rw [vfm, if_neg (by rw [z4]; exact Bool.false_ne_true), List.append_nil]; exact r3) hst3
                rw [← nI_1] at qq
                exact qq
              · refine c_behind hw3.1 hp z4 ?_
                have el : (nI (sSum (sCanW g p) (sMM g))).toInt64 = lN (sSum (sCanW g p) (sMM g)) := nI_l (by omega)
                refine And.intro ?_ ?_
                · show ¬ (nI (sSum (sCanW g p) (sMM g))).toInt64 = 0
                  rw [el]
                  exact fun w => by have := (pk_lEQ (b := 0) (by omega) (by omega)).mp w; omega
                have ed : lN (sWc F ch i) / (nI (sSum (sCanW g p) (sMM g))).toInt64 = lN (sWc F ch i / sSum (sCanW g p) (sMM g)) := by rw [el, pk_lDiv (by omega) hcw (by omega)]
                have hdle : sWc F ch i / sSum (sCanW g p) (sMM g) ≤ sWc F ch i := Nat.div_le_self _ _
                show zC G (N + 12) 100 [.ref 0, .int (nI (gs - gl)), .int (nI gs), .int (nI (sBeh g p m)), .int (nI ds.length), .long (lN (sWc F ch i) / (nI (sSum (sCanW g p) (sMM g))).toInt64), .int (nI f)] I3 L3 (zR1 q) _
                rw [ed]
                refine go m _ _ I3 L3 _ z4 (by omega) haW3 hst3 fun b I4 L4 r4 hst4 => ?_
                have e1 : vf m = sWy g fr rl ru F fu gl (sBeh g p m) c ds (sWc F ch i / sSum (sCanW g p) (sMM g)) := by rw [vfm, if_pos z4]
                have r5 : wyR a (sCat wf i ++ (sCat vf m ++ vf m)) b I4 L4 := by
                  rw [← List.append_assoc, e1]
                  exact wyR_app hW3 r4
                cases b with
                | true =>
                  have qq := ihm (m + 1) (by omega) I4 L4 r5 hst4
                  rw [← nI_1] at qq
                  exact And.intro (fun _ => b104_232 qq) (fun w => absurd w (by decide))
                | false =>
                  refine And.intro (fun w => absurd rfl w) (fun _ => And.intro rfl (stop (sCat wf i ++ (sCat vf m ++ vf m)) I4 L4 ⟨Y ++ X, ?_⟩ r5 hst4))
                  rw [eF, ewf, show sMM g = m + 1 + j2 by omega, hY, List.append_assoc, List.append_assoc, List.append_assoc]
                  rfl
          have cnt : ∀ j m : Nat, m + j = sMM g → zQ G 104 (N + 12) post 147 [some (.ref 0), some (.int (nI (gs - gl))), some (.int (nI gs)), some (.int (nI p)), some (.int (nI ds.length)), some (.long (lN ch)), none, some (.int (nI f)), some (.int (nI (sSum F.2.2.1 F.1))), some (.int (nI i)), some (.int (nI (14 * f + i))), some (.long (lN (sWc F ch i))), none, some (.int (nI (sSum (sCanW g p) m))), some (.int (nI m))] [] I2 L2 (zR1 q) := by
            intro j2
            induction j2 with
            | zero =>
              intro m hm2
              have e : m = sMM g := by omega
              subst e
              exact b104_147 (c_moveMany hw2.1 (pk_le (sMM g) (sMM g) (fun _ => b104_182 (moves (sMM g) 0 (by omega) I2 L2 (wyR_nil r2) hst)) (fun w => absurd w (by omega)) rfl rfl (by omega) (by omega)))
            | succ j2 ihm =>
              intro m hm2
              have qq := ihm (m + 1) (by omega)
              have e : nI (sSum (sCanW g p) (m + 1)) = nI (sSum (sCanW g p) m) + nI (sCanW g p m) := by rw [nI_add]; rfl
              rw [← nI_1, e] at qq
              refine b104_147 (c_moveMany hw2.1 (pk_le (sMM g) m (fun w => absurd w (by omega)) (fun _ => c_can hw2.1 hp (by omega) (zbo_eq (fun z4 => b104_172 (b104_173 ?_)) (fun z4 => b104_173 ?_))) rfl rfl (by omega) (by omega)))
              · rw [show nI (sCanW g p m) = 0 by unfold sCanW; rw [if_neg (by rw [z4]; exact Bool.false_ne_true)]; rfl] at qq
                exact qq
              · rw [show nI (sCanW g p m) = 1 by unfold sCanW; rw [if_pos z4]; rfl] at qq
                exact qq
          exact cnt (sMM g) 0 (by omega)
        · have ewf : wf i = sWy g fr rl ru F fu gl (sBeh g p (sFMv g F i p)) c ds (sWc F ch i) := by rw [wfk, if_neg z]
          have hcan := sFMv_can hgo (F := F) (k := i) hwp
          refine c_foeMove hw2.1 hw2.2.1 hr hwp hf8 hok hw2.2.2.2.1 hi1 (c_behind hw2.1 hp hcan ?_)
          refine go (sFMv g F i p) _ _ I2 L2 _ hcan (by omega) haW hst fun b I4 L4 r4 hst4 => ?_
          have r5 : wyR a (sCat wf i ++ wf i) b I4 L4 := by rw [ewf]; exact wyR_app hW r4
          cases b with
          | true => exact And.intro (fun _ => zP_lv (by exact ⟨rfl, rfl, rfl, rfl, rfl, rfl, rfl, rfl, rfl, trivial⟩) (next I4 L4 r5 hst4)) (fun w => absurd w (by decide))
          | false => exact And.intro (fun w => absurd rfl w) (fun _ => And.intro rfl (stop _ I4 L4 ⟨X, eF⟩ r5 hst4))
      refine b104_45 (And.intro inf (pk_le F.1 i (fun w => absurd w (by omega)) (fun _ => And.intro inf ?_) e10 rfl (by omega) (by omega)))
      refine pk_ne F.1 1 (fun z => b104_83 ?_) (fun z => ?_) e10 rfl (by omega) (by omega)
      · have esh : I2 12 ((14 : Int32) * nI f + nI i).toNatClampNeg = nI (F.2.2.1 i) := by rw [e14, ec14, x2]
        have el : (nI (sSum F.2.2.1 F.1)).toInt64 = lN (sSum F.2.2.1 F.1) := nI_l (by omega)
        have hmul : ch * F.2.2.1 i ≤ 1000000000 * 9 := Nat.mul_le_mul hch o2.2
        refine And.intro (by rw [e14]; exact in14) (And.intro ?_ ?_)
        · show ¬ (nI (sSum F.2.2.1 F.1)).toInt64 = 0
          rw [el]
          exact fun w => by have := (pk_lEQ (b := 0) (by omega) (by omega)).mp w; omega
        · have qq := p98 (lN ch * (I2 12 ((14 : Int32) * nI f + nI i).toNatClampNeg).toInt64 / (nI (sSum F.2.2.1 F.1)).toInt64) (by rw [esh, el, nI_l (by omega), lN_mul, pk_lDiv (by omega) (by omega) (by omega)]; unfold sWc; rw [if_neg z])
          rw [← e14] at qq
          exact qq
      · have qq := p98 (lN ch) (by unfold sWc; rw [if_pos z])
        rw [← e14] at qq
        exact qq
  -- the shares
  have sum : ∀ j i : Nat, i + j = F.1 → zQ G 104 (N + 12) post 6 [some (.ref 0), some (.int (nI (gs - gl))), some (.int (nI gs)), some (.int (nI p)), some (.int (nI ds.length)), some (.long (lN ch)), none, some (.int (nI f)), some (.int (nI (sSum F.2.2.1 i))), some (.int (nI i)), none, none, none, none, none] [] I L (zR1 q) := by
    intro j
    have e10 : I 10 (nI f).toNatClampNeg = nI F.1 := by rw [ecf]; exact hF.1
    induction j with
    | zero =>
      intro i hi
      have e : i = F.1 := by omega
      subst e
      have qq := parts F.1 0 (by omega) I L (wyR_0 ha) ⟨hc, hu, zFr_0 _ _, lWy_0 L, fun _ _ => ⟨rfl, rfl⟩⟩
      exact b104_6 (And.intro inf (pk_le F.1 F.1 (fun _ => b104_42 qq) (fun w => absurd w (by omega)) e10 rfl (by omega) (by omega)))
    | succ j ih2 =>
      intro i hi
      have e12 : (14 : Int32) * nI f + nI i = nI (14 * f + i) := by rw [show (14 : Int32) = nI 14 from rfl, pk_mul, nI_add]
      have inb : vp_in ((14 : Int32) * nI f + nI i) 112 := by rw [e12]; exact vp_in_nI (by omega) (by decide)
      have esh : I 12 ((14 : Int32) * nI f + nI i).toNatClampNeg = nI (F.2.2.1 i) := by rw [e12, nI_clamp (by omega)]; exact (hF.2 i (by omega)).2.1
      refine b104_6 (And.intro inf (pk_le F.1 i (fun w => absurd w (by omega)) (fun _ => And.intro inb ?_) e10 rfl (by omega) (by omega)))
      have qq := ih2 (i + 1) (by omega)
      rw [← nI_1, show sSum F.2.2.1 (i + 1) = sSum F.2.2.1 i + F.2.2.1 i from rfl, ← nI_add, ← esh] at qq
      exact qq
  exact zin0 rfl rfl rfl (b104_0 (sum F.1 0 (by omega)))
theorem wy_all {gs : Nat} (hgs : gs ≤ 3) (hf8 : f < 8) (hok : foOk F) : ∀ fu, WyP G g fr nr rl ru f F q gs fu := by
  intro fu
  induction fu with
  | zero => intro gl p N ch c ds es a I L post h; omega
  | succ fu ih =>
    intro gl p N ch c ds es a I L post hfu hglg hN hw hr hin hc hu hroom ha hch hlen hd hdr h
    obtain ⟨hg, hm, hfr, hF, hrl⟩ := id hw
    have hgo := hg.1
    have h8 := hgo.2.2.2.2.2.2.2.2
    have hp1 := sR_lt hgo hr
    have hwk4 := sWork_le g p
    obtain ⟨N, rfl⟩ : ∃ N', N = N' + 14 := ⟨N - 14, by omega⟩
    have inp : vp_in (nI p) 19683 := vp_in_nI hp1 (by decide)
    have es2 : I 2 (nI p).toNatClampNeg = nI (sWork g p) := by rw [nI_clamp (by omega)]; exact (mPos_R hgo hm hr).2.1
    refine zin0 rfl rfl rfl (b100_0 ?_)
    refine pk_ne (gs - gl) gs (fun z => b100_12 (And.intro inp ?_)) (fun z => ?_) rfl rfl (by omega) (by omega)
    · have hgl : 1 ≤ gl ∧ gl ≤ gs := by omega
      refine pk_lt (sWork g p) 2 (fun z2 => b100_37 (And.intro inp ?_)) (fun z2 => ?_) es2 rfl (by omega) (by omega)
      · refine pk_ne (sWork g p) (g 8) (fun z3 => b100_66 ?_) (fun z3 => ?_) es2 (mG0 hg 8 (by decide)) (by omega) (by omega)
        · exact wy_foe ih hgs hgl hfu (by omega) hf8 hok hw hr z2 z3 hin hc hu hroom ha hch hlen hd hdr fun b I' L' y1 y2 y3 y4 y5 y6 => b100_79 (And.intro (zbo_nar b) (h b I' L' y1 y2 y3 y4 y5 y6))
        · exact wy_box ih hgs hgl hfu (by omega) hw hr z3 hin hc hu hroom ha hch hlen hd hdr fun b I' L' y1 y2 y3 y4 y5 y6 => b100_79 (And.intro (zbo_nar b) (h b I' L' y1 y2 y3 y4 y5 y6))
      · have eS : sWy g fr rl ru F (fu + 1) gl p c ds ch = sWy g fr rl ru F fu (gl - 1) (sFirst g) (sPayAll g rl ru (sHw g p none) ds none c) [] ch := by
          rw [sWy, if_neg (by omega), if_neg (by omega)]
          rfl
        rw [eS] at h
        show zC G (N + 13) 102 [.ref 0, .int (nI (gs - gl)), .int (nI gs), .int (nI p), .int (nI ds.length), .int (zon none), .long (lN ch), .int (nI f)] I L (zR1 q) _
        exact wy_end ih hgs hgl (by omega) (by omega) hw hr hin hc hu (by omega) ha hch (by omega) hd hdr (fun b hb => by cases hb) (fun _ => z2) fun b I' L' y1 y2 y3 y4 y5 y6 => And.intro (zbo_nar b) (h b I' L' y1 y2 y3 y4 y5 (fun j hj => y6 j (by omega)))
    · have hg0 : gl = 0 := by omega
      have eS : sWy g fr rl ru F (fu + 1) gl p c ds ch = [(ch, 10000 - c.2.2.1 - c.2.2.2.1)] := by rw [sWy, if_pos hg0]
      rw [eS] at h
      refine c_endWay hin.1 hc ha fun b I' L' y1 y2 y3 => And.intro (zbo_nar b) (h b I' L' y1 ?_ ?_ ?_ y3 (fun j _ => ⟨y2 21 j (by omega), y2 22 j (by omega)⟩))
      · exact mC_of hc (funext fun k => y2 5 k (by omega)) (funext fun k => y2 4 k (by omega)) (y2 0 14 (by omega)) (y2 0 15 (by omega)) (y2 0 16 (by omega))
      · exact mU_of hu (y2 0 35 (by omega)) (y2 0 36 (by omega)) (funext fun k => y2 18 k (by omega)) (funext fun k => y2 19 k (by omega))
      · intro o k z4
        refine y2 o k fun ⟨w1, w2⟩ => ?_
        subst w1
        rcases w2 with w2 | w2 | w2 <;> subst w2 <;> cases z4
end
