-- ===== the reference: turned positions, boxes, moves of boxes =====
section
variable {G : zG} {n : Nat} {I : zI} {L : zL} {q : zq} {post : zPo} {g : zg}
theorem c_turnedPosition {p t : Nat} (hg : mG g I) (hp : p < 2 ^ 31) (ht : t < 8) (h4 : 4 ≤ t → g 1 = g 2) (h : post (some (.int (nI (sTP g p t)))) I L (zR1 q)) : zC G (n + 2) 21 [.ref 0, .int (nI p), .int (nI t)] I L (zR1 q) post := by
  have hpl := sPl_pos hg.1
  have key : t ≠ 0 → ∀ j i : Nat, i + j = sPl g → zQ G 21 (n + 1) post 11 [some (.ref 0), some (.int (nI p)), some (.int (nI t)), some (.int (nI (sTPk g p t i))), some (.int (nI i))] [] I L (zR1 q) := by
    intro h0 j
    induction j with
    | zero =>
      intro i hi
      refine b21_11 (c_places hg (pk_le (sPl g) i (fun _ => b21_48 ?_) (fun z => absurd z (by omega)) rfl rfl (by omega) (by omega)))
      rw [show sTP g p t = sTPk g p t i by unfold sTP; rw [if_neg h0, show i = sPl g by omega]] at h
      exact h
    | succ j ih =>
      intro i hi
      refine b21_11 (c_places hg (pk_le (sPl g) i (fun z => absurd z (by omega)) (fun _ => ?_) rfl rfl (by omega) (by omega)))
      refine c_cell hp (by omega) ?_
      refine c_turned hg (by omega) ht h4 ?_
      have hd := sTd_lt hg.1 (show i < sPl g by omega) h4
      refine And.intro (vp_in_nI (show sTd g i t < 10 by omega) (by decide)) ?_
      have qq := ih (i + 1) (by omega)
      have e : nI (sTPk g p t i) + nI (sCell p i) * zstv 2 (nI (sTd g i t)).toNatClampNeg = nI (sTPk g p t (i + 1)) := by
        rw [nI_clamp (by omega), zpow2 _ (by omega), pk_mul, nI_add]
        rfl
      rw [← nI_1, ← e] at qq
      exact qq
  refine zin0 rfl rfl rfl (b21_0 ?_)
  refine (fun z : _ ∧ _ => And.intro z.2 z.1) (pk_eq t 0 (fun z => ?_) (fun z => ?_) rfl rfl (by omega) (by omega))
  · rw [show sTP g p t = p by unfold sTP; rw [if_pos z]] at h
    exact h
  · exact b21_6 (key z (sPl g) 0 (by omega))
theorem c_turnOf {p : Nat} (hg : mG g I) (hp : p < 19683) (h : post (some (.int (nI (sTurnOf g p)))) I L (zR1 q)) : zC G (n + 3) 22 [.ref 0, .int (nI p)] I L (zR1 q) post := by
  have htu := sTurns_le g
  have key : ∀ j t : Nat, 1 ≤ t → t + j = sTurns g → zQ G 22 (n + 2) post 7 [some (.ref 0), some (.int (nI p)), some (.int (nI (sTO g p t))), some (.int (nI (sTP g p (sTO g p t)))), some (.int (nI t)), none] [] I L (zR1 q) := by
    intro j
    induction j with
    | zero =>
      intro t h1 ht
      refine b22_7 (c_turns hg (pk_le (sTurns g) t (fun _ => b22_46 ?_) (fun z => absurd z (by omega)) rfl rfl (by omega) (by omega)))
      rw [show sTurnOf g p = sTO g p t by unfold sTurnOf; rw [show t = sTurns g by omega]] at h
      exact h
    | succ j ih =>
      intro t h1 ht
      have h4 : 4 ≤ t → g 1 = g 2 := fun z => sTurns_sq (show t < sTurns g by omega) z
      have hl1 := sTP_le hg.1 hp h4
      have hlo := sTO_lt g p t h1
      have hl2 := sTP_le hg.1 hp (t := sTO g p t) (fun z => sTurns_sq (show sTO g p t < sTurns g by omega) z)
      refine b22_7 (c_turns hg (pk_le (sTurns g) t (fun z => absurd z (by omega)) (fun _ => ?_) rfl rfl (by omega) (by omega)))
      refine c_turnedPosition hg (by omega) (by omega) h4 ?_
      have qq := ih (t + 1) (by omega) (by omega)
      rw [← nI_1] at qq
      refine pk_lt (sTP g p t) (sTP g p (sTO g p t)) (fun z => ?_) (fun z => ?_) rfl rfl (by omega) (by omega)
      · rw [show sTO g p (t + 1) = t by rw [sTO, if_neg (by omega), if_pos z]] at qq
        exact b22_34 (b22_40 (zP_lv (by exact ⟨rfl, rfl, rfl, rfl, rfl, trivial⟩) qq))
      · rw [show sTO g p (t + 1) = sTO g p t by rw [sTO, if_neg (by omega), if_neg (by omega)]] at qq
        exact b22_40 (zP_lv (by exact ⟨rfl, rfl, rfl, rfl, rfl, trivial⟩) qq)
  have e0 : sTO g p 1 = 0 := by rw [sTO, if_pos rfl]
  have qq := key (sTurns g - 1) 1 (by omega) (by omega)
  rw [e0, show sTP g p 0 = p by unfold sTP; rw [if_pos rfl]] at qq
  exact zin0 rfl rfl rfl (b22_0 qq)
theorem c_boxOf {p : Nat} (hg : mG g I) (hp : p < 19683) (h : post (some (.int (nI (sBox g p)))) I L (zR1 q)) : zC G (n + 4) 23 [.ref 0, .int (nI p)] I L (zR1 q) post := by
  have htu := sTurns_le g
  have ht := sTurnOf_lt g p
  refine zin0 rfl rfl rfl (b23_0 (c_turnOf hg hp ?_))
  exact c_turnedPosition hg (by omega) (by omega) (fun z => sTurns_sq ht z) h
/-- 'led' of places below the places of the board, and the turns of the game -/
theorem c_led {m t : Nat} (hg : mG g I) (hm : m < sMM g) (ht : t < sTurns g) (h : post (some (.int (nI (sLed g m t)))) I L (zR1 q)) : zC G (n + 2) 24 [.ref 0, .int (nI m), .int (nI t)] I L (zR1 q) post := by
  have htu := sTurns_le g
  have hmm := sMM_pos hg.1
  refine zin0 rfl rfl rfl (b24_0 ?_)
  refine (fun z : _ ∧ _ => And.intro z.2 z.1) (pk_eq t 0 (fun z => ?_) (fun z => ?_) rfl rfl (by omega) (by omega))
  · rw [show sLed g m t = m by unfold sLed; rw [if_pos z]] at h
    exact b24_14 h
  · have hb := sTurns_b ht z
    refine b24_8 (c_turned hg ?_ (by omega) (fun w => sTurns_sq ht w) (b24_14 ?_))
    · unfold sMM at hm
      rw [if_neg hb] at hm
      exact hm
    · rw [show sLed g m t = sTd g m t by unfold sLed; rw [if_neg z]] at h
      exact h
theorem sMM_b {g : zg} {m t : Nat} (hm : m < sMM g) (ht : t < sTurns g) (h0 : t ≠ 0) : m < sPl g := by
  have hb := sTurns_b ht h0
  unfold sMM at hm
  rw [if_neg hb] at hm
  exact hm
theorem sLed_lt {m t : Nat} (hg : gOk g) (hm : m < sMM g) (ht : t < sTurns g) : sLed g m t < sMM g := by
  unfold sLed
  split
  · exact hm
  · next h0 =>
    have hb := sTurns_b ht h0
    have := sTd_lt hg (sMM_b hm ht h0) (fun z => sTurns_sq ht z)
    unfold sMM
    rw [if_neg hb]
    exact this
theorem sLs_lt {b m : Nat} (hg : gOk g) (hm : m < sMM g) : ∀ t, t ≤ sTurns g → sLs g b m t < sMM g
  | 0, _ => hm
  | t + 1, ht => by
    have h := sLs_lt (b := b) hg hm t (by omega)
    rw [sLs]
    split
    · exact hm
    · split
      · exact Nat.lt_of_le_of_lt (Nat.min_le_left _ _) h
      · exact h
theorem sLeast_lt {b m : Nat} (hg : gOk g) (hm : m < sMM g) : sLeast g b m < sMM g := sLs_lt hg hm _ (Nat.le_refl _)
theorem c_least {b m : Nat} (hg : mG g I) (hb : b < 19683) (hm : m < sMM g) (h : post (some (.int (nI (sLeast g b m)))) I L (zR1 q)) : zC G (n + 3) 25 [.ref 0, .int (nI b), .int (nI m)] I L (zR1 q) post := by
  have htu := sTurns_le g
  have hmm := sMM_pos hg.1
  have key : ∀ j t : Nat, 1 ≤ t → t + j = sTurns g → zQ G 25 (n + 2) post 5 [some (.ref 0), some (.int (nI b)), some (.int (nI m)), some (.int (nI (sLs g b m t))), some (.int (nI t))] [] I L (zR1 q) := by
    intro j
    induction j with
    | zero =>
      intro t h1 ht
      refine b25_5 (c_turns hg (pk_le (sTurns g) t (fun _ => b25_43 ?_) (fun z => absurd z (by omega)) rfl rfl (by omega) (by omega)))
      rw [show sLeast g b m = sLs g b m t by unfold sLeast; rw [show t = sTurns g by omega]] at h
      exact h
    | succ j ih =>
      intro t h1 ht
      have ht2 : t < sTurns g := by omega
      have h4 : 4 ≤ t → g 1 = g 2 := fun z => sTurns_sq ht2 z
      have hl1 := sTP_le hg.1 hb h4
      have hls := sLs_lt (b := b) hg.1 hm t (by omega)
      have hmb := sMM_b hm ht2 (by omega)
      have hpl := sPl_pos hg.1
      have htd := sTd_lt hg.1 hmb h4
      refine b25_5 (c_turns hg (pk_le (sTurns g) t (fun z => absurd z (by omega)) (fun _ => ?_) rfl rfl (by omega) (by omega)))
      refine c_turnedPosition hg (by omega) (by omega) h4 ?_
      have qq := ih (t + 1) (by omega) (by omega)
      rw [← nI_1] at qq
      refine (fun z : _ ∧ _ => And.intro z.2 z.1) (pk_eq (sTP g b t) b (fun z => ?_) (fun z => ?_) rfl rfl (by omega) (by omega))
      · refine c_turned hg hmb (by omega) h4 (b25_37 ?_)
        have e : (if nI (sTd g m t) < nI (sLs g b m t) then nI (sTd g m t) else nI (sLs g b m t)) = nI (sLs g b m (t + 1)) := by
          have es : sLs g b m (t + 1) = min (sLs g b m t) (sTd g m t) := by rw [sLs, if_neg (by omega), if_pos z]
          rw [es]
          by_cases w : sTd g m t < sLs g b m t
          · rw [if_pos ((nI_ltI (by omega) (by omega)).mpr w), Nat.min_eq_right (by omega)]
          · rw [if_neg (fun w2 => w ((nI_ltI (by omega) (by omega)).mp w2)), Nat.min_eq_left (by omega)]
        rw [← e] at qq
        exact qq
      · rw [show sLs g b m (t + 1) = sLs g b m t by rw [sLs, if_neg (by omega), if_neg z]] at qq
        exact b25_37 qq
  have qq := key (sTurns g - 1) 1 (by omega) (by omega)
  rw [show sLs g b m 1 = m by rw [sLs, if_pos rfl]] at qq
  exact zin0 rfl rfl rfl (b25_0 qq)
theorem c_hasBeads {b m : Nat} (hg : mG g I) (hb : pOk g b) (hm : m < 2 ^ 31) (h : post (some (.int (zbo (sHas g b m)))) I L (zR1 q)) : zC G (n + 4) 26 [.ref 0, .int (nI b), .int (nI m)] I L (zR1 q) post := by
  have hmm := sMM_pos hg.1
  refine zin0 rfl rfl rfl (b26_0 (c_can hg hb hm ?_))
  refine zbo_eq (fun z => ?_) (fun z => ?_)
  · rw [show sHas g b m = false by unfold sHas; rw [z]; rfl] at h
    exact b26_23 (b26_24 (And.intro rfl h))
  · have hm2 := sCan_lt z
    have hls := sLeast_lt (b := b) hg.1 hm2
    refine c_least hg hb.1 hm2 ?_
    refine (fun z : _ ∧ _ => And.intro z.2 z.1) (pk_eq (sLeast g b m) m (fun z2 => ?_) (fun z2 => ?_) rfl rfl (by omega) (by omega))
    · rw [show sHas g b m = true by unfold sHas; rw [z, decide_eq_true z2]; rfl] at h
      exact b26_24 (And.intro rfl h)
    · rw [show sHas g b m = false by unfold sHas; rw [z, decide_eq_false z2]; rfl] at h
      exact b26_23 (b26_24 (And.intro rfl h))
theorem c_moveOf {p k : Nat} (hg : mG g I) (hp : p < 19683) (hk : k < 2 ^ 31) (h : post (some (.int (zon (sMvOf g p k)))) I L (zR1 q)) : zC G (n + 4) 27 [.ref 0, .int (nI p), .int (nI k)] I L (zR1 q) post := by
  have htu := sTurns_le g
  have hmm := sMM_pos hg.1
  have hto := sTurnOf_lt g p
  have more : ∀ i j m, sMvk g p k i = some m → sMvk g p k (i + j) = some m := by
    intro i j m hi
    induction j with
    | zero => exact hi
    | succ j ih => show (match sMvk g p k (i + j) with | some m => some m | none => _) = _; rw [ih]
  have key : ∀ j i : Nat, i + j = sMM g → sMvk g p k i = none → zQ G 27 (n + 3) post 9 [some (.ref 0), some (.int (nI p)), some (.int (nI k)), some (.int (nI (sTurnOf g p))), some (.int (nI i))] [] I L (zR1 q) := by
    intro j
    induction j with
    | zero =>
      intro i hi hn
      refine b27_9 (c_moveMany hg (pk_le (sMM g) i (fun _ => b27_38 ?_) (fun z => absurd z (by omega)) rfl rfl (by omega) (by omega)))
      rw [show sMvOf g p k = none by unfold sMvOf; rw [show sMM g = i by omega]; exact hn] at h
      exact h
    | succ j ih =>
      intro i hi hn
      refine b27_9 (c_moveMany hg (pk_le (sMM g) i (fun z => absurd z (by omega)) (fun _ => ?_) rfl rfl (by omega) (by omega)))
      have hil : i < sMM g := by omega
      have hld := sLed_lt hg.1 hil hto
      refine c_led hg hil hto ?_
      have hs : sMvk g p k (i + 1) = if sLed g i (sTurnOf g p) = k then some i else none := by
        rw [sMvk, hn]
      refine (fun z : _ ∧ _ => And.intro z.2 z.1) (pk_eq (sLed g i (sTurnOf g p)) k (fun z => ?_) (fun z => b27_32 ?_) rfl rfl (by omega) (by omega))
      · rw [if_pos z] at hs
        have := more (i + 1) j i hs
        rw [show sMvOf g p k = some i by unfold sMvOf; rw [show sMM g = i + 1 + j by omega]; exact this] at h
        exact h
      · rw [if_neg z] at hs
        have qq := ih (i + 1) (by omega) hs
        rw [← nI_1] at qq
        exact qq
  exact zin0 rfl rfl rfl (b27_0 (c_turnOf hg hp (key (sMM g) 0 (by omega) rfl)))
theorem c_at {p m : Nat} (hg : mG g I) (hp : p < 19683) (hm : m < sMM g) (h : post (some (.int (nI (sAtB g p m)))) I L (zR1 q)) : zC G (n + 5) 28 [.ref 0, .int (nI p), .int (nI m)] I L (zR1 q) post := by
  have hto := sTurnOf_lt g p
  have hbl := sBox_le g p
  refine zin0 rfl rfl rfl (b28_0 (c_boxOf hg hp ?_))
  refine c_turnOf hg hp ?_
  refine c_led hg hm hto ?_
  refine c_least hg (by omega) (sLed_lt hg.1 hm hto) ?_
  have e : (9 : Int32) * nI (sBox g p) + nI (sLeast g (sBox g p) (sLed g m (sTurnOf g p))) = nI (sAtB g p m) := by
    rw [show (9 : Int32) = nI 9 from rfl, pk_mul, nI_add]
    rfl
  rw [← e] at h
  exact h
end
