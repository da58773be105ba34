-- ===== all ways: what is told is what goes =====
def yFu (g : zg) (gl p : Nat) : Nat := if gl = 0 then 1 else sDep g p + 2 + 21 * (gl - 1)
def yBo (g : zg) (gl p : Nat) : Nat := if gl = 0 then 0 else 40 * (gl - 1) + 2 * sDep g p
theorem yCt_ext {f f' : Nat → List (Nat × Nat)} : ∀ n i, (∀ k, i ≤ k → k < i + n → f k = f' k) → yCt f n i = yCt f' n i
  | 0, _, _ => rfl
  | n + 1, i, h => by rw [yCt, yCt, h i (Nat.le_refl _) (by omega), yCt_ext n (i + 1) (fun k a b => h k (by omega) (by omega))]
theorem yCt_shift (f : Nat → List (Nat × Nat)) : ∀ n i, yCt (fun j => f (j - 1)) n (i + 1) = yCt f n i
  | 0, _ => rfl
  | n + 1, i => by
    rw [yCt, yCt, yCt_shift f n (i + 1), Nat.add_sub_cancel]
theorem yCt_pick {w : Nat → Nat} (h1 : ∀ k, w k ≤ 1) (A : Nat → List (Nat × Nat)) : ∀ f i, yCt (fun m => if w m = 0 then [] else A m) f i = yCt (fun j => A (sPick w f i j)) (sS w f i) 0
  | 0, _ => rfl
  | f + 1, i => by
    rw [yCt, yCt_pick h1 A f (i + 1)]
    have eS : sS w (f + 1) i = w i + sS w f (i + 1) := rfl
    have eP : ∀ j, sPick w (f + 1) i j = if j < w i then i else sPick w f (i + 1) (j - w i) := fun _ => rfl
    by_cases c : w i = 0
    · rw [if_pos c, List.nil_append, eS, c, Nat.zero_add]
      refine yCt_ext _ _ fun j _ _ => ?_
      rw [eP, c, if_neg (Nat.not_lt_zero _), Nat.sub_zero]
    · have c1 : w i = 1 := by have := h1 i; omega
      rw [if_neg c, eS, c1, Nat.add_comm 1, yCt]
      have e0 : sPick w (f + 1) i 0 = i := by rw [eP, c1, if_pos (by decide)]
      rw [e0]
      congr 1
      rw [← yCt_shift (fun j => A (sPick w f (i + 1) j))]
      refine yCt_ext _ _ fun j h _ => ?_
      rw [eP, c1, if_neg (by omega)]
theorem yRn_c {t : zyt} {R R2 : sC × zyw → sC × zyw} {VV V2 : sC × zyw → Prop} {b : Nat} {c c' : sC} {ch : Nat} (h : yRn t R VV b c' ch) (e : ∀ y, R2 (c, y) = R (c', y)) (v : ∀ y, VV (c', y) → V2 (c, y)) : yRn t R2 V2 b c ch := fun π vv ks cs fs h1 h2 h3 => by
  obtain ⟨a, x, y⟩ := h π vv ks cs fs h1 h2 h3
  exact ⟨(e _).trans a, v _ x, y⟩
theorem sCat_more2 {α : Type} {f : Nat → List α} {n : Nat} : ∀ j, (∀ k, n ≤ k → k < n + j → f k = []) → sCat f (n + j) = sCat f n
  | 0, _ => rfl
  | j + 1, h => by
    show sCat f (n + j) ++ f (n + j) = _
    rw [sCat_more2 j (fun k a b => h k a (by omega)), h _ (by omega) (by omega), List.append_nil]
theorem sCat_fw {w : Nat → Nat} {al : Nat → List (Nat × Nat)} {n : Nat} (h : ∀ k, k < n → w k ≠ 0) : sCat (yFw w al) n = sCat al n := sCat_ext n (fun k hk => if_neg (h k hk))
/-- behind a foe's part -/
def yRk (g : zg) (fr : Nat → Nat) (rl : zrl) (ru : Option Nat) (F : zfo) (n gl p : Nat) (ds : List (Nat × Nat)) (kk : Nat) (s : sC × zyw) : sC × zyw := if F.2.1 kk = 102 then wRun pfW g fr rl ru F n gl (sBeh g p ((sNth (sLg g p) 31 0 (pfW s (fun _ => 1) (sCn g p)).1).getD 0)) (pfW s (fun _ => 1) (sCn g p)).2 ds else wRun pfW g fr rl ru F n gl (sBeh g p (sFMv g F kk p)) s ds
def yVk (g : zg) (fr : Nat → Nat) (rl : zrl) (ru : Option Nat) (F : zfo) (n gl p : Nat) (ds : List (Nat × Nat)) (kk : Nat) (s : sC × zyw) : Prop := if F.2.1 kk = 102 then vW s (fun _ => 1) (sCn g p) ∧ wVd vW pfW g fr rl ru F n gl (sBeh g p ((sNth (sLg g p) 31 0 (pfW s (fun _ => 1) (sCn g p)).1).getD 0)) (pfW s (fun _ => 1) (sCn g p)).2 ds else wVd vW pfW g fr rl ru F n gl (sBeh g p (sFMv g F kk p)) s ds
section
variable {g : zg} {fr : Nat → Nat} {F : zfo} {rl : zrl} {ru : Option Nat}
/-- the legal moves, by their numbers -/
theorem sLegal_ct (hg : gOk g) (p : Nat) (A : Nat → List (Nat × Nat)) : sCat (fun m => if sCan g p m = true then A m else []) (sMM g) = sCat (yFw (fun _ => 1) (fun j => A ((sNth (sLg g p) 31 0 j).getD 0))) (sCn g p) := by
  have e1 : sCat (fun m => if sCan g p m = true then A m else []) (sMM g) = yCt (fun m => if sCanW g p m = 0 then [] else A m) (sMM g) 0 := by
    rw [sCat_ct]
    refine yCt_ext _ _ fun m _ _ => ?_
    by_cases c : sCan g p m = true
    · have e : sCanW g p m = 1 := if_pos c
      rw [if_pos c, e]
      rfl
    · have e : sCanW g p m = 0 := if_neg c
      rw [if_neg c, e]
      rfl
  have h1 : ∀ k, sCanW g p k ≤ 1 := fun k => by
    unfold sCanW
    split <;> omega
  rw [e1, yCt_pick h1, sS_0, sCat_ct]
  refine yCt_ext _ _ fun j _ hj => ?_
  have hj : j < sCn g p := by
    have : j < 0 + sSum (sCanW g p) (sMM g) := hj
    unfold sCn
    omega
  show A (sPick (sCanW g p) (sMM g) 0 j) = A ((sNth (sLg g p) 31 0 j).getD 0)
  rw [(sNth_legal hg hj).1]
  rfl
def zyt0 : zyt := (fun _ => ((((fun _ => 0), (fun _ => false), 0, 0, 0), 0), [], []), fun _ => [], fun _ => True)
theorem yPick {P : Nat → zyt → Prop} {Q : Nat → Prop} (h : ∀ k, Q k → ∃ t, P k t) : ∃ T : Nat → zyt, ∀ k, Q k → P k (T k) := by
  have h2 : ∀ k, ∃ t, Q k → P k t := fun k => by
    by_cases c : Q k
    · obtain ⟨t, ht⟩ := h k c
      exact ⟨t, fun _ => ht⟩
    · exact ⟨zyt0, fun z => absurd z c⟩
  exact ⟨fun k => Classical.choose (h2 k), fun k => Classical.choose_spec (h2 k)⟩
set_option maxHeartbeats 1000000 in
theorem yAll (hg : gOk g) (hok : foOk F) : ∀ (n gl p : Nat) (c : sC) (ds : List (Nat × Nat)) (ch : Nat), yFu g gl p ≤ n → sR g p → cIn g c → (∀ d, d ∈ ds → c.2.1 d.1 = true ∧ sHas g d.1 d.2 = true) → ch ≤ 1000000000 → ∃ t, yOk (sWy g fr rl ru F n gl p c ds ch) t ∧ yRn t (fun s => wRun pfW g fr rl ru F n gl p s ds) (fun s => wVd vW pfW g fr rl ru F n gl p s ds) (yBo g gl p) c ch := by
  intro n
  induction n with
  | zero =>
    intro gl p c ds ch hn
    unfold yFu at hn
    split at hn <;> omega
  | succ n ih =>
    intro gl p c ds ch hn hr hin hd hch
    cases gl with
    | zero =>
      have e : sWy g fr rl ru F (n + 1) 0 p c ds ch = [(ch, 10000 - c.2.2.1 - c.2.2.2.1)] := by rw [sWy, if_pos rfl]
      rw [e]
      exact ⟨_, yLeaf_ok c ch, yRn_le (yLeaf_rn c ch (fun s => wRun_0 _ _ _ _) (fun s z => absurd rfl z)) (Nat.zero_le _)⟩
    | succ k =>
      have hdf := sDep_first g hg
      have kne := Nat.succ_ne_zero k
      have fu : sDep g p + 2 + 21 * k ≤ n + 1 := by
        unfold yFu at hn
        rw [if_neg kne] at hn
        omega
      have eB : yBo g (k + 1) p = 40 * k + 2 * sDep g p := by
        unfold yBo
        rw [if_neg kne]
        rfl
      rw [eB, sWy, if_neg kne]
      have eW : ∀ s : sC × zyw, wRun pfW g fr rl ru F (n + 1) (k + 1) p s ds = _ := fun s => (by rw [wRun, if_neg kne])
      have over : ∀ c' : sC, cIn g c' → ∃ t, yOk (sWy g fr rl ru F n (k + 1 - 1) (sFirst g) c' [] ch) t ∧ yRn t (fun s => wRun pfW g fr rl ru F n (k + 1 - 1) (sFirst g) s []) (fun s => wVd vW pfW g fr rl ru F n (k + 1 - 1) (sFirst g) s []) (40 * k + 2 * sDep g p) c' ch := by
        intro c' hc'
        rw [Nat.add_sub_cancel]
        obtain ⟨t, a, b⟩ := ih k (sFirst g) c' [] ch (by unfold yFu; split <;> omega) (sR_first g) hc' (fun d hx => by cases hx) hch
        exact ⟨t, a, yRn_le b (by unfold yBo; split <;> omega)⟩
      have next : ∀ (m : Nat) (c' : sC) (ds' : List (Nat × Nat)) (ch' : Nat), sWork g p < 2 → sCan g p m = true → cIn g c' → (∀ d, d ∈ ds' → c'.2.1 d.1 = true ∧ sHas g d.1 d.2 = true) → ch' ≤ 1000000000 → ∃ t, yOk (sWy g fr rl ru F n (k + 1) (sBeh g p m) c' ds' ch') t ∧ yRn t (fun s => wRun pfW g fr rl ru F n (k + 1) (sBeh g p m) s ds') (fun s => wVd vW pfW g fr rl ru F n (k + 1) (sBeh g p m) s ds') (40 * k + 2 * (sDep g p - 1)) c' ch' := by
        intro m c' ds' ch' hw hm hc' hd' hch'
        have hdl := sDep_lt hg hm
        obtain ⟨t, a, b⟩ := ih (k + 1) (sBeh g p m) c' ds' ch' (by unfold yFu; rw [if_neg kne]; omega) (sR_step hr hw hm) hc' hd' hch'
        exact ⟨t, a, yRn_le b (by unfold yBo; rw [if_neg kne]; omega)⟩
      by_cases z2 : sWork g p < 2
      · have dp := sDep_pos hg z2
        rw [if_pos z2]
        by_cases z3 : sWork g p = g 8
        · rw [if_pos z3]
          obtain ⟨o1, o2, o3⟩ := sOpn_in hg (fr := fr) hin hr z3
          have hdo : ∀ d, d ∈ ds → (sOpn g fr c (sBox g p)).2.1 d.1 = true ∧ sHas g d.1 d.2 = true := fun d hx => ⟨o3 _ (hd d hx).1, (hd d hx).2⟩
          by_cases z4 : sInB (sOpn g fr c (sBox g p)) (sBox g p) = 0
          · rw [if_pos z4]
            obtain ⟨t, a, b⟩ := over _ (sPayAll_in hg (rl := rl) (ru := ru) (e := 0) (em := some (sBox g p)) o1 hdo (fun b hb => by injection hb with hb; rw [← hb]; exact o2)).1
            refine ⟨t, a, yRn_c b (fun y => ?_) (fun y v => ?_)⟩
            · rw [wRun, if_neg kne, if_pos z2, if_pos z3, if_pos z4]
            · intro _
              rw [if_pos z2, if_pos z3, if_pos z4]
              exact v
          · rw [if_neg z4]
            generalize hc1 : sOpn g fr c (sBox g p) = c1 at *
            generalize hbb : sBox g p = b at *
            have h0 : 0 < sSum (gBd c1 b) 9 := Nat.pos_of_ne_zero z4
            have has : ∀ m, m < 9 → 0 < gBd c1 b m → sHas g b m = true := fun m h9 hp => (o1.2.2 b m h9 (Nat.pos_iff_ne_zero.mp hp)).2
            obtain ⟨T, hT⟩ := yPick (P := fun m t => yOk (sWy g fr rl ru F n (k + 1) (sBeh g p (sMv g p m)) c1 (ds ++ [(b, m)]) (ch * c1.1 (9 * b + m) / sInB c1 b)) t ∧ yRn t (fun s => wRun pfW g fr rl ru F n (k + 1) (sBeh g p (sMv g p m)) s (ds ++ [(b, m)])) (fun s => wVd vW pfW g fr rl ru F n (k + 1) (sBeh g p (sMv g p m)) s (ds ++ [(b, m)])) (40 * k + 2 * (sDep g p - 1)) c1 (ch * c1.1 (9 * b + m) / sInB c1 b)) (Q := fun m => m < 9 ∧ 0 < gBd c1 b m) (fun m hm => by
              have hh := has m hm.1 hm.2
              have hle : gBd c1 b m ≤ sInB c1 b := sSum_ge (f := gBd c1 b) 9 hm.1
              refine next _ c1 _ _ z2 (sMv_can hg (by rw [hbb]; exact (sHas_lt hg hh).2)) o1 (fun d hx => ?_) (Nat.le_trans (zdiv_le (Nat.mul_le_mul_left ch hle)) hch)
              rcases List.mem_append.mp hx with y | y
              · exact hdo d y
              · rw [List.mem_singleton.mp y]
                exact ⟨o2, hh⟩)
            refine ⟨yCh (gBd c1 b) 9 T (fun m => sWy g fr rl ru F n (k + 1) (sBeh g p (sMv g p m)) c1 (ds ++ [(b, m)]) (ch * c1.1 (9 * b + m) / sInB c1 b)), ?_, ?_⟩
            · have q := yCh_ok (T := T) (al := fun m => sWy g fr rl ru F n (k + 1) (sBeh g p (sMv g p m)) c1 (ds ++ [(b, m)]) (ch * c1.1 (9 * b + m) / sInB c1 b)) h0 (fun m h1 h2 => (hT m ⟨h1, h2⟩).1)
              have mm := sMM_pos hg
              have e := sCat_more2 (f := yFw (gBd c1 b) (fun m => sWy g fr rl ru F n (k + 1) (sBeh g p (sMv g p m)) c1 (ds ++ [(b, m)]) (ch * c1.1 (9 * b + m) / sInB c1 b))) (n := sMM g) (9 - sMM g) (fun m hm hm2 => by
                unfold yFw
                refine if_pos ?_
                by_cases w0 : gBd c1 b m = 0
                · exact w0
                · by_cases w9 : m < 9
                  · have := sCan_lt (sHas_lt hg (has m w9 (Nat.pos_of_ne_zero w0))).2
                    omega
                  · omega)
              rw [show sMM g + (9 - sMM g) = 9 by omega] at e
              rw [e] at q
              exact q
            · have q := yCh_rn (T := T) (al := fun m => sWy g fr rl ru F n (k + 1) (sBeh g p (sMv g p m)) c1 (ds ++ [(b, m)]) (ch * c1.1 (9 * b + m) / sInB c1 b)) (c := c1) (w := gBd c1 b) (many := 9) (R := fun s => wRun pfW g fr rl ru F n (k + 1) (sBeh g p (sMv g p (pfW s (gBd c1 b) 9).1)) (pfW s (gBd c1 b) 9).2 (ds ++ [(b, (pfW s (gBd c1 b) 9).1)])) (VV := fun s => vW s (gBd c1 b) 9 ∧ wVd vW pfW g fr rl ru F n (k + 1) (sBeh g p (sMv g p (pfW s (gBd c1 b) 9).1)) (pfW s (gBd c1 b) 9).2 (ds ++ [(b, (pfW s (gBd c1 b) 9).1)])) (R' := fun r => wRun pfW g fr rl ru F n (k + 1) (sBeh g p (sMv g p r.1)) r.2 (ds ++ [(b, r.1)])) (VV' := fun r => wVd vW pfW g fr rl ru F n (k + 1) (sBeh g p (sMv g p r.1)) r.2 (ds ++ [(b, r.1)])) hch (fun m h1 h2 => (hT m ⟨h1, h2⟩).2) (fun _ => rfl) (fun _ a b => ⟨a, b⟩)
              refine yRn_le (yRn_c q (fun y => ?_) (fun y v => ?_)) (by omega)
              · rw [wRun, if_neg kne, if_pos z2, if_pos z3]
                dsimp only
                rw [hbb, hc1, if_neg z4]
                rfl
              · intro _
                dsimp only
                rw [if_pos z2, if_pos z3, hbb, hc1, if_neg z4]
                exact v
        · rw [if_neg z3]
          have part : ∀ kk, ∀ ch', ch' ≤ 1000000000 → ∃ t, yOk (if F.2.1 kk = 102 then sCat (fun m => if sCan g p m = true then sWy g fr rl ru F n (k + 1) (sBeh g p m) c ds (ch' / sSum (sCanW g p) (sMM g)) else []) (sMM g) else sWy g fr rl ru F n (k + 1) (sBeh g p (sFMv g F kk p)) c ds ch') t ∧ yRn t (yRk g fr rl ru F n (k + 1) p ds kk) (yVk g fr rl ru F n (k + 1) p ds kk) (40 * k + 2 * (sDep g p - 1) + 1) c ch' := by
            intro kk ch' hch'
            by_cases f : F.2.1 kk = 102
            · rw [if_pos f, sLegal_ct hg p]
              have h9 := sCn_9 hg z2
              have h1 : 0 < sSum (fun _ => 1) (sCn g p) := by rw [sSum_1]; exact h9.1
              obtain ⟨T, hT⟩ := yPick (P := fun j t => yOk (sWy g fr rl ru F n (k + 1) (sBeh g p ((sNth (sLg g p) 31 0 j).getD 0)) c ds (ch' / sSum (sCanW g p) (sMM g))) t ∧ yRn t (fun s => wRun pfW g fr rl ru F n (k + 1) (sBeh g p ((sNth (sLg g p) 31 0 j).getD 0)) s ds) (fun s => wVd vW pfW g fr rl ru F n (k + 1) (sBeh g p ((sNth (sLg g p) 31 0 j).getD 0)) s ds) (40 * k + 2 * (sDep g p - 1)) c (ch' / sSum (sCanW g p) (sMM g))) (Q := fun j => j < sCn g p) (fun j hj => by
                obtain ⟨n1, n2⟩ := sNth_legal hg hj
                rw [n1]
                exact next _ c ds _ z2 n2 hin hd (Nat.le_trans (Nat.div_le_self _ _) hch'))
              refine ⟨yCh (fun _ => 1) (sCn g p) T (fun j => sWy g fr rl ru F n (k + 1) (sBeh g p ((sNth (sLg g p) 31 0 j).getD 0)) c ds (ch' / sSum (sCanW g p) (sMM g))), yCh_ok h1 (fun j h _ => (hT j h).1), ?_⟩
              have q := yCh_rn (T := T) (al := fun j => sWy g fr rl ru F n (k + 1) (sBeh g p ((sNth (sLg g p) 31 0 j).getD 0)) c ds (ch' / sSum (sCanW g p) (sMM g))) (c := c) (w := fun _ => 1) (many := sCn g p) (ch := ch') (b := 40 * k + 2 * (sDep g p - 1)) (R := fun s => wRun pfW g fr rl ru F n (k + 1) (sBeh g p ((sNth (sLg g p) 31 0 (pfW s (fun _ => 1) (sCn g p)).1).getD 0)) (pfW s (fun _ => 1) (sCn g p)).2 ds) (VV := fun s => vW s (fun _ => 1) (sCn g p) ∧ wVd vW pfW g fr rl ru F n (k + 1) (sBeh g p ((sNth (sLg g p) 31 0 (pfW s (fun _ => 1) (sCn g p)).1).getD 0)) (pfW s (fun _ => 1) (sCn g p)).2 ds) (R' := fun r => wRun pfW g fr rl ru F n (k + 1) (sBeh g p ((sNth (sLg g p) 31 0 r.1).getD 0)) r.2 ds) (VV' := fun r => wVd vW pfW g fr rl ru F n (k + 1) (sBeh g p ((sNth (sLg g p) 31 0 r.1).getD 0)) r.2 ds) hch' (fun j h1 h2 => by
                rw [Nat.mul_one, sSum_1]
                exact (hT j h1).2) (fun _ => rfl) (fun _ a b => ⟨a, b⟩)
              exact yRn_c q (fun y => by unfold yRk; rw [if_pos f]) (fun y v => by unfold yVk; rw [if_pos f]; exact v)
            · rw [if_neg f]
              obtain ⟨t, a, b⟩ := next (sFMv g F kk p) c ds ch' z2 (sFMv_can hg z2) hin hd hch'
              exact ⟨t, a, yRn_le (yRn_c b (fun y => by unfold yRk; rw [if_neg f]) (fun y v => by unfold yVk; rw [if_neg f]; exact v)) (by omega)⟩
          have eR : ∀ s : sC × zyw, wRun pfW g fr rl ru F (n + 1) (k + 1) p s ds = yRk g fr rl ru F n (k + 1) p ds (gPt pfW F s).1 (gPt pfW F s).2 := fun s => by
            rw [wRun, if_neg kne, if_pos z2, if_neg z3]
            unfold yRk gFo
            by_cases f : F.2.1 (gPt pfW F s).1 = 102
            · rw [if_pos f, if_pos f]
            · rw [if_neg f, if_neg f]
          have eV : ∀ s : sC × zyw, (1 < F.1 → vW s F.2.2.1 F.1) → yVk g fr rl ru F n (k + 1) p ds (gPt pfW F s).1 (gPt pfW F s).2 → wVd vW pfW g fr rl ru F (n + 1) (k + 1) p s ds := fun s v1 v2 => by
            intro _
            rw [if_pos z2, if_neg z3]
            unfold yVk at v2
            unfold gFo
            by_cases f : F.2.1 (gPt pfW F s).1 = 102
            · rw [if_pos f] at v2 ⊢
              exact ⟨⟨v1, fun _ => v2.1⟩, v2.2⟩
            · rw [if_neg f] at v2 ⊢
              exact ⟨⟨v1, fun z => absurd z f⟩, v2⟩
          by_cases e1 : F.1 = 1
          · obtain ⟨t, a, b⟩ := part 0 ch hch
            have gen : ∀ f : Nat → List (Nat × Nat), sCat f F.1 = f 0 := fun f => by rw [e1]; rfl
            have ew : sWc F ch 0 = ch := if_pos e1
            have ep : ∀ s : sC × zyw, gPt pfW F s = (0, s) := fun s => if_neg (by omega)
            rw [gen, ew]
            refine ⟨t, a, yRn_le (yRn_c b (fun y => by rw [eR, ep]) (fun y v => eV _ (fun z => by omega) (by rw [ep]; exact v))) (by omega)⟩
          · have f1 := hok.1.1
            have hs := foSum hok F.1 (Nat.le_refl _)
            have ep : ∀ s : sC × zyw, gPt pfW F s = pfW s F.2.2.1 F.1 := fun s => if_pos (by omega)
            have ew : ∀ kk, sWc F ch kk = ch * F.2.2.1 kk / sSum F.2.2.1 F.1 := fun kk => if_neg e1
            obtain ⟨T, hT⟩ := yPick (P := fun kk t => yOk (if F.2.1 kk = 102 then sCat (fun m => if sCan g p m = true then sWy g fr rl ru F n (k + 1) (sBeh g p m) c ds (sWc F ch kk / sSum (sCanW g p) (sMM g)) else []) (sMM g) else sWy g fr rl ru F n (k + 1) (sBeh g p (sFMv g F kk p)) c ds (sWc F ch kk)) t ∧ yRn t (yRk g fr rl ru F n (k + 1) p ds kk) (yVk g fr rl ru F n (k + 1) p ds kk) (40 * k + 2 * (sDep g p - 1) + 1) c (sWc F ch kk)) (Q := fun kk => kk < F.1) (fun kk hk => part kk _ (by
              rw [ew]
              exact Nat.le_trans (zdiv_le (Nat.mul_le_mul_left ch (sSum_ge (f := F.2.2.1) F.1 hk))) hch))
            refine ⟨yCh F.2.2.1 F.1 T (fun kk => if F.2.1 kk = 102 then sCat (fun m => if sCan g p m = true then sWy g fr rl ru F n (k + 1) (sBeh g p m) c ds (sWc F ch kk / sSum (sCanW g p) (sMM g)) else []) (sMM g) else sWy g fr rl ru F n (k + 1) (sBeh g p (sFMv g F kk p)) c ds (sWc F ch kk)), ?_, ?_⟩
            · have q := yCh_ok (T := T) (w := F.2.2.1) (many := F.1) (al := fun kk => if F.2.1 kk = 102 then sCat (fun m => if sCan g p m = true then sWy g fr rl ru F n (k + 1) (sBeh g p m) c ds (sWc F ch kk / sSum (sCanW g p) (sMM g)) else []) (sMM g) else sWy g fr rl ru F n (k + 1) (sBeh g p (sFMv g F kk p)) c ds (sWc F ch kk)) (by omega) (fun m h1 h2 => (hT m h1).1)
              rw [sCat_fw (fun kk hk => by have := (hok.2 kk hk).2.1; omega)] at q
              exact q
            · have q := yCh_rn (T := T) (al := fun kk => if F.2.1 kk = 102 then sCat (fun m => if sCan g p m = true then sWy g fr rl ru F n (k + 1) (sBeh g p m) c ds (sWc F ch kk / sSum (sCanW g p) (sMM g)) else []) (sMM g) else sWy g fr rl ru F n (k + 1) (sBeh g p (sFMv g F kk p)) c ds (sWc F ch kk)) (c := c) (w := F.2.2.1) (many := F.1) (ch := ch) (b := 40 * k + 2 * (sDep g p - 1) + 1) (R := fun s => yRk g fr rl ru F n (k + 1) p ds (pfW s F.2.2.1 F.1).1 (pfW s F.2.2.1 F.1).2) (VV := fun s => vW s F.2.2.1 F.1 ∧ yVk g fr rl ru F n (k + 1) p ds (pfW s F.2.2.1 F.1).1 (pfW s F.2.2.1 F.1).2) (R' := fun r => yRk g fr rl ru F n (k + 1) p ds r.1 r.2) (VV' := fun r => yVk g fr rl ru F n (k + 1) p ds r.1 r.2) hch (fun kk h1 h2 => by
                rw [← ew]
                exact (hT kk h1).2) (fun _ => rfl) (fun _ a b => ⟨a, b⟩)
              exact yRn_le (yRn_c q (fun y => by rw [eR, ep]) (fun y v => eV _ (fun _ => v.1) (by rw [ep]; exact v.2))) (by omega)
      · rw [if_neg z2]
        obtain ⟨t, a, b⟩ := over _ (sPayAll_in hg (rl := rl) (ru := ru) (e := sEnd g p) (em := none) hin hd (fun b hb => by cases hb)).1
        refine ⟨t, a, yRn_c b (fun y => ?_) (fun y v => ?_)⟩
        · rw [wRun, if_neg kne, if_neg z2]
        · intro _
          rw [if_neg z2]
          exact v
end
