-- ===== the class: a game's run, by picking =====
def gPt {τ : Type} (pf : sC × τ → (Nat → Nat) → Nat → Nat × (sC × τ)) (F : zfo) (s : sC × τ) : Nat × (sC × τ) := if 1 < F.1 then pf s F.2.2.1 F.1 else (0, s)
def sCn (g : zg) (p : Nat) : Nat := sSum (sCanW g p) (sMM g)
def gFo {τ : Type} (pf : sC × τ → (Nat → Nat) → Nat → Nat × (sC × τ)) (g : zg) (F : zfo) (p : Nat) (s : sC × τ) : Nat × (sC × τ) := if F.2.1 (gPt pf F s).1 = 102 then ((sNth (sLg g p) 31 0 (pf (gPt pf F s).2 (fun _ => 1) (sCn g p)).1).getD 0, (pf (gPt pf F s).2 (fun _ => 1) (sCn g p)).2) else (sFMv g F (gPt pf F s).1 p, (gPt pf F s).2)
def gBd (c : sC) (b k : Nat) : Nat := c.1 (9 * b + k)
def gOw {τ : Type} (pf : sC × τ → (Nat → Nat) → Nat → Nat × (sC × τ)) (c : sC) (t : τ) (b : Nat) : Nat × (sC × τ) := pf (c, t) (gBd c b) 9
def gRun {τ : Type} (pf : sC × τ → (Nat → Nat) → Nat → Nat × (sC × τ)) (g : zg) (fr : Nat → Nat) (F : zfo) : Nat → Nat → sC × τ → List (Nat × Nat) → List Nat → Nat × (sC × τ) × List (Nat × Nat) × List Nat × Option Nat
  | 0, p, s, ds, ts => (p, s, ds, ts, none)
  | n + 1, p, s, ds, ts => if sWork g p < 2 then (if sWork g p = g 8 then
      (if sInB (sOpn g fr s.1 (sBox g p)) (sBox g p) = 0 then (p, (sOpn g fr s.1 (sBox g p), s.2), ds, ts, some (sBox g p))
      else gRun pf g fr F n (sBeh g p (sMv g p (gOw pf (sOpn g fr s.1 (sBox g p)) s.2 (sBox g p)).1)) (gOw pf (sOpn g fr s.1 (sBox g p)) s.2 (sBox g p)).2 (ds ++ [(sBox g p, (gOw pf (sOpn g fr s.1 (sBox g p)) s.2 (sBox g p)).1)]) (ts ++ [sMv g p (gOw pf (sOpn g fr s.1 (sBox g p)) s.2 (sBox g p)).1]))
    else gRun pf g fr F n (sBeh g p (gFo pf g F p s).1) (gFo pf g F p s).2 ds (ts ++ [(gFo pf g F p s).1])) else (p, s, ds, ts, none)
/-- all that is picked may be picked -/
def gVF {τ : Type} (V : sC × τ → (Nat → Nat) → Nat → Prop) (pf : sC × τ → (Nat → Nat) → Nat → Nat × (sC × τ)) (g : zg) (F : zfo) (p : Nat) (s : sC × τ) : Prop := (1 < F.1 → V s F.2.2.1 F.1) ∧ (F.2.1 (gPt pf F s).1 = 102 → V (gPt pf F s).2 (fun _ => 1) (sCn g p))
def gVR {τ : Type} (V : sC × τ → (Nat → Nat) → Nat → Prop) (pf : sC × τ → (Nat → Nat) → Nat → Nat × (sC × τ)) (g : zg) (fr : Nat → Nat) (F : zfo) : Nat → Nat → sC × τ → Prop
  | 0, _, _ => True
  | n + 1, p, s => sWork g p < 2 → (sWork g p = g 8 → sInB (sOpn g fr s.1 (sBox g p)) (sBox g p) ≠ 0 → V (sOpn g fr s.1 (sBox g p), s.2) (gBd (sOpn g fr s.1 (sBox g p)) (sBox g p)) 9 ∧ gVR V pf g fr F n (sBeh g p (sMv g p (gOw pf (sOpn g fr s.1 (sBox g p)) s.2 (sBox g p)).1)) (gOw pf (sOpn g fr s.1 (sBox g p)) s.2 (sBox g p)).2) ∧ (sWork g p ≠ g 8 → gVF V pf g F p s ∧ gVR V pf g fr F n (sBeh g p (gFo pf g F p s).1) (gFo pf g F p s).2)
theorem gVR_T {τ : Type} {pf : sC × τ → (Nat → Nat) → Nat → Nat × (sC × τ)} {g : zg} {fr : Nat → Nat} {F : zfo} : ∀ n p s, gVR (τ := τ) vT pf g fr F n p s
  | 0, _, _ => trivial
  | n + 1, p, s => fun _ => ⟨fun _ _ => ⟨trivial, gVR_T n _ _⟩, fun _ => ⟨⟨fun _ => trivial, fun _ => trivial⟩, gVR_T n _ _⟩⟩
theorem sSum_1 : ∀ n, sSum (fun _ => 1) n = n
  | 0 => rfl
  | n + 1 => by rw [sSum, sSum_1 n]
theorem sPick_more {w : Nat → Nat} : ∀ f k l j, l < sS w f k → sPick w (f + j) k l = sPick w f k l
  | 0, _, _, _, h => absurd h (Nat.not_lt_zero _)
  | f + 1, k, l, j, h => by
    rw [show f + 1 + j = (f + j) + 1 by omega, sPick, sPick]
    by_cases c : l < w k
    · rw [if_pos c, if_pos c]
    · rw [if_neg c, if_neg c]
      have h : l < w k + sS w f (k + 1) := h
      exact sPick_more f (k + 1) (l - w k) j (by omega)
theorem sS_more {w : Nat → Nat} : ∀ f k j, sS w f k ≤ sS w (f + j) k
  | 0, _, _ => Nat.zero_le _
  | f + 1, k, j => by
    rw [show f + 1 + j = (f + j) + 1 by omega, sS, sS]
    have := sS_more (w := w) f (k + 1) j
    omega
theorem sNth_pick {g : zg} (hg : gOk g) {p : Nat} : ∀ f b l, l < sS (sCanW g p) f b → sNth (sLg g p) f b l = some (sPick (sCanW g p) f b l)
  | 0, _, _, h => absurd h (Nat.not_lt_zero _)
  | f + 1, b, l, h => by
    have h : l < sCanW g p b + sS (sCanW g p) f (b + 1) := h
    rw [sNth, sPick, sLg_tb hg]
    by_cases c : sCan g p b = true
    · have e : sCanW g p b = 1 := if_pos c
      rw [e] at h
      rw [if_pos c, e]
      by_cases d : l = 0
      · rw [if_pos d, if_pos (by omega)]
      · rw [if_neg d, if_neg (by omega)]
        exact sNth_pick hg f (b + 1) (l - 1) (by omega)
    · have e : sCanW g p b = 0 := if_neg c
      rw [e] at h
      rw [if_neg c, e, if_neg (Nat.not_lt_zero _), Nat.sub_zero]
      exact sNth_pick hg f (b + 1) l (by omega)
theorem sNth_legal {g : zg} (hg : gOk g) {p j : Nat} (h : j < sCn g p) : sNth (sLg g p) 31 0 j = some (sPick (sCanW g p) (sMM g) 0 j) ∧ sCan g p (sPick (sCanW g p) (sMM g) 0 j) = true := by
  have hmm := sMM_pos hg
  have hj : j < sS (sCanW g p) (sMM g) 0 := by rw [sS_0]; exact h
  have e := sPick_more (w := sCanW g p) (sMM g) 0 j (31 - sMM g) hj
  rw [show sMM g + (31 - sMM g) = 31 by omega] at e
  have hj2 := sS_more (w := sCanW g p) (sMM g) 0 (31 - sMM g)
  rw [show sMM g + (31 - sMM g) = 31 by omega] at hj2
  refine ⟨?_, ?_⟩
  · rw [sNth_pick hg 31 0 j (by omega), e]
  · have q := (sPick_in (sCanW g p) _ 0 j hj).2.2
    by_cases c : sCan g p (sPick (sCanW g p) (sMM g) 0 j) = true
    · exact c
    · have e0 : sCanW g p (sPick (sCanW g p) (sMM g) 0 j) = 0 := if_neg c
      omega
theorem sCn_pc {g : zg} (hg : gOk g) (p : Nat) : sPc (sLg g p) = sCn g p := by
  have hmm := sMM_pos hg
  have key : ∀ n, sCB (sCan g p) n = sSum (sCanW g p) n := by
    intro n
    induction n with
    | zero => rfl
    | succ n ih => rw [sCB, sSum, ih]; rfl
  have more : ∀ j, sSum (sCanW g p) (sMM g + j) = sSum (sCanW g p) (sMM g) := by
    intro j
    induction j with
    | zero => rfl
    | succ j ih =>
      show sSum (sCanW g p) (sMM g + j) + sCanW g p (sMM g + j) = _
      have e : sCanW g p (sMM g + j) = 0 := if_neg fun z => by have := sCan_lt z; omega
      rw [ih, e, Nat.add_zero]
  have := more (9 - sMM g)
  rw [show sMM g + (9 - sMM g) = 9 by omega] at this
  unfold sLg
  rw [sPc_sFB, key 9, this]
  rfl
theorem sCn_9 {g : zg} (hg : gOk g) {p : Nat} (hw : sWork g p < 2) : 0 < sCn g p ∧ sCn g p ≤ 9 := by
  have hmm := sMM_pos hg
  have := sCanW_le g p (sMM g)
  exact ⟨sCanW_pos hg hw, by unfold sCn; omega⟩
section
variable {τ : Type} {V : sC × τ → (Nat → Nat) → Nat → Prop} {pf : sC × τ → (Nat → Nat) → Nat → Nat × (sC × τ)} {g : zg} {fr : Nat → Nat} {F : zfo}
theorem gOw_ok (hpf : kPf V pf) {c : sC} {t : τ} {b : Nat} (h : cIn g c) (hn : sInB c b ≠ 0) (hV : V (c, t) (gBd c b) 9) : (gOw pf c t b).1 < 9 ∧ sHas g b (gOw pf c t b).1 = true ∧ ∃ r, (gOw pf c t b).2.1 = cSetR c r := by
  obtain ⟨h1, h2, h3⟩ := hpf (c, t) (gBd c b) 9 (Nat.pos_of_ne_zero hn) hV
  exact ⟨h1, (h.2.2 b _ h1 (Nat.pos_iff_ne_zero.mp h2)).2, h3⟩
theorem gPt_ok (hpf : kPf V pf) (hok : foOk F) {s : sC × τ} (hV : 1 < F.1 → V s F.2.2.1 F.1) : (gPt pf F s).1 < F.1 ∧ ∃ r, (gPt pf F s).2.1 = cSetR s.1 r := by
  have h1 := hok.1.1
  unfold gPt
  split
  · rename_i c
    have hs := foSum hok F.1 (Nat.le_refl _)
    obtain ⟨a, b, r, e⟩ := hpf s F.2.2.1 F.1 (by omega) (hV c)
    exact ⟨a, r, e⟩
  · exact ⟨by show 0 < F.1; omega, s.1.2.2.2.2, rfl⟩
theorem gFo_ok (hg : gOk g) (hpf : kPf V pf) (hok : foOk F) {p : Nat} {s : sC × τ} (hw : sWork g p < 2) (hV : gVF V pf g F p s) : sCan g p (gFo pf g F p s).1 = true ∧ ∃ r, (gFo pf g F p s).2.1 = cSetR s.1 r := by
  obtain ⟨a1, r1, e1⟩ := gPt_ok hpf hok hV.1
  have h9 := sCn_9 hg hw
  unfold gFo
  split
  · rename_i c
    obtain ⟨b1, -, r2, e2⟩ := hpf (gPt pf F s).2 (fun _ => 1) (sCn g p) (by rw [sSum_1]; exact h9.1) (hV.2 c)
    obtain ⟨n1, n2⟩ := sNth_legal hg b1
    refine ⟨?_, r2, ?_⟩
    · show sCan g p ((sNth (sLg g p) 31 0 _).getD 0) = true
      rw [n1]
      exact n2
    · show (pf (gPt pf F s).2 (fun _ => 1) (sCn g p)).2.1 = _
      rw [e2, e1]
      rfl
  · exact ⟨sFMv_can hg hw, r1, e1⟩
theorem gInv_own (hg : gOk g) (hpf : kPf V pf) {p : Nat} {s : sC × τ} {ds : List (Nat × Nat)} {ts : List Nat} (h : pInv g p s.1 ds ts) (hw : sWork g p = g 8) (hw2 : sWork g p < 2) (hn : sInB (sOpn g fr s.1 (sBox g p)) (sBox g p) ≠ 0) (hV : V (sOpn g fr s.1 (sBox g p), s.2) (gBd (sOpn g fr s.1 (sBox g p)) (sBox g p)) 9) : sCan g p (sMv g p (gOw pf (sOpn g fr s.1 (sBox g p)) s.2 (sBox g p)).1) = true ∧ pInv g (sBeh g p (sMv g p (gOw pf (sOpn g fr s.1 (sBox g p)) s.2 (sBox g p)).1)) (gOw pf (sOpn g fr s.1 (sBox g p)) s.2 (sBox g p)).2.1 (ds ++ [(sBox g p, (gOw pf (sOpn g fr s.1 (sBox g p)) s.2 (sBox g p)).1)]) (ts ++ [sMv g p (gOw pf (sOpn g fr s.1 (sBox g p)) s.2 (sBox g p)).1]) := by
  obtain ⟨hr, hc, hd, hl, hlen⟩ := h
  obtain ⟨o1, o2, o3⟩ := sOpn_in hg (fr := fr) hc hr hw
  obtain ⟨m1, m2, r, er⟩ := gOw_ok hpf o1 hn hV
  have hcan := sMv_can hg (sHas_lt hg m2).2
  have hdep := sDep_lt hg hcan
  rw [er]
  refine ⟨hcan, sR_step hr hw2 hcan, cIn_R o1 r, fun d hx => ?_, ?_, ?_⟩
  · rcases List.mem_append.mp hx with z | z
    · exact ⟨o3 _ (hd d z).1, (hd d z).2⟩
    · rw [List.mem_singleton.mp z]
      exact ⟨o2, m2⟩
  · rw [snoc_len, snoc_len]
    omega
  · rw [snoc_len]
    omega
theorem gInv_foe (hg : gOk g) (hpf : kPf V pf) (hok : foOk F) {p : Nat} {s : sC × τ} {ds : List (Nat × Nat)} {ts : List Nat} (h : pInv g p s.1 ds ts) (hw2 : sWork g p < 2) (hV : gVF V pf g F p s) : sCan g p (gFo pf g F p s).1 = true ∧ pInv g (sBeh g p (gFo pf g F p s).1) (gFo pf g F p s).2.1 ds (ts ++ [(gFo pf g F p s).1]) := by
  obtain ⟨c1, r, er⟩ := gFo_ok hg hpf hok hw2 hV
  rw [er]
  exact ⟨c1, pInv_foe hg h hw2 c1 r⟩
/-- the end of a run -/
theorem gRun_end (hg : gOk g) (hpf : kPf V pf) (hok : foOk F) : ∀ (n p : Nat) (s : sC × τ) (ds : List (Nat × Nat)) (ts : List Nat), sDep g p < n → pInv g p s.1 ds ts → gVR V pf g fr F n p s → pInv g (gRun pf g fr F n p s ds ts).1 (gRun pf g fr F n p s ds ts).2.1.1 (gRun pf g fr F n p s ds ts).2.2.1 (gRun pf g fr F n p s ds ts).2.2.2.1 ∧ ((gRun pf g fr F n p s ds ts).2.2.2.2 = none → 2 ≤ sWork g (gRun pf g fr F n p s ds ts).1) ∧ ∀ b, (gRun pf g fr F n p s ds ts).2.2.2.2 = some b → (gRun pf g fr F n p s ds ts).2.1.1.2.1 b = true := by
  intro n
  induction n with
  | zero => intro p s ds ts h; exact absurd h (Nat.not_lt_zero _)
  | succ n ih =>
    intro p s ds ts hd hi hv
    rw [gRun]
    by_cases c : sWork g p < 2
    · obtain ⟨v1, v2⟩ := hv c
      rw [if_pos c]
      by_cases c2 : sWork g p = g 8
      · rw [if_pos c2]
        by_cases c3 : sInB (sOpn g fr s.1 (sBox g p)) (sBox g p) = 0
        · rw [if_pos c3]
          obtain ⟨o1, o2, o3⟩ := sOpn_in hg (fr := fr) hi.2.1 hi.1 c2
          refine ⟨⟨hi.1, o1, fun d hx => ⟨o3 _ (hi.2.2.1 d hx).1, (hi.2.2.1 d hx).2⟩, hi.2.2.2⟩, (fun z => by cases z), fun b hb => ?_⟩
          injection hb with hb
          rw [← hb]
          exact o2
        · rw [if_neg c3]
          obtain ⟨w1, w2⟩ := v1 c2 c3
          obtain ⟨a1, a2⟩ := gInv_own hg hpf (fr := fr) hi c2 c c3 w1
          have := sDep_lt hg a1
          exact ih _ _ _ _ (by omega) a2 w2
      · rw [if_neg c2]
        obtain ⟨w1, w2⟩ := v2 c2
        obtain ⟨a1, a2⟩ := gInv_foe hg hpf hok hi c w1
        have := sDep_lt hg a1
        exact ih _ _ _ _ (by omega) a2 w2
    · rw [if_neg c]
      exact ⟨hi, fun _ => by show 2 ≤ sWork g p; omega, (fun b hb => by cases hb)⟩
/-- by draws it is the document's game -/
theorem gFo_D (hg : gOk g) (hok : foOk F) {p : Nat} {c : sC} (hw : sWork g p < 2) : gFo pfD g F p (c, ()) = ((sDF g F p c.2.2.2.2).1, (cSetR c (sDF g F p c.2.2.2.2).2, ())) := by
  have ep : gPt pfD F (c, ()) = ((sFPt F c.2.2.2.2).1, (cSetR c (sFPt F c.2.2.2.2).2, ())) := by
    unfold gPt sFPt
    split
    · rfl
    · rfl
  have h9 := sCn_9 hg hw
  unfold gFo sDF
  rw [ep]
  split
  · have hd : sDr (sFPt F c.2.2.2.2).2 (sSum (fun _ => 1) (sCn g p)) < sS (fun _ => 1) (sCn g p) 0 := by rw [sS_0]; exact sDr_lt (by rw [sSum_1]; exact h9.1)
    have e1 : ∀ f k l, l < f → sPick (fun _ => 1) f k l = k + l := by
      intro f
      induction f with
      | zero => intro k l h; exact absurd h (Nat.not_lt_zero _)
      | succ f ih =>
        intro k l h
        rw [sPick]
        by_cases d : l < 1
        · rw [if_pos d, show l = 0 by omega, Nat.add_zero]
        · rw [if_neg d, ih (k + 1) (l - 1) (by omega)]
          omega
    have e2 : (pfD (cSetR c (sFPt F c.2.2.2.2).2, ()) (fun _ => 1) (sCn g p)).1 = sDr (sFPt F c.2.2.2.2).2 (sCn g p) := by
      show sPick (fun _ => 1) (sCn g p) 0 (sDr (sFPt F c.2.2.2.2).2 (sSum (fun _ => 1) (sCn g p))) = _
      rw [sSum_1, e1 _ _ _ (sDr_lt h9.1), Nat.zero_add]
    have lt : sDr (sFPt F c.2.2.2.2).2 (sCn g p) < sCn g p := sDr_lt h9.1
    dsimp only
    rw [e2, (sNth_legal hg lt).1]
    rfl
  · rfl
theorem gRun_D (hg : gOk g) (hok : foOk F) : ∀ (n p : Nat) (c : sC) (ds : List (Nat × Nat)) (ts : List Nat), gRun pfD g fr F n p (c, ()) ds ts = ((sPlay g fr F n p c ds ts).1, ((sPlay g fr F n p c ds ts).2.1, ()), (sPlay g fr F n p c ds ts).2.2)
  | 0, _, _, _, _ => rfl
  | n + 1, p, c, ds, ts => by
    rw [gRun, sPlay]
    by_cases c1 : sWork g p < 2
    · rw [if_pos c1, if_pos c1]
      by_cases c2 : sWork g p = g 8
      · rw [if_pos c2, if_pos c2]
        by_cases c3 : sInB (sOpn g fr c (sBox g p)) (sBox g p) = 0
        · rw [if_pos c3, if_pos c3]
        · rw [if_neg c3, if_neg c3, ← gRun_D hg hok n]
          rfl
      · rw [if_neg c2, if_neg c2, ← gRun_D hg hok n, gFo_D hg hok c1]
    · rw [if_neg c1, if_neg c1]
end
