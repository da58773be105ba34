-- ===== all ways: the walk of a way, and all of them in order =====
def wRun {τ : Type} (pf : sC × τ → (Nat → Nat) → Nat → Nat × (sC × τ)) (g : zg) (fr : Nat → Nat) (rl : zrl) (ru : Option Nat) (F : zfo) : Nat → Nat → Nat → sC × τ → List (Nat × Nat) → sC × τ
  | 0, _, _, s, _ => s
  | n + 1, gl, p, s, ds => if gl = 0 then s else if sWork g p < 2 then (if sWork g p = g 8 then
      (if sInB (sOpn g fr s.1 (sBox g p)) (sBox g p) = 0 then wRun pf g fr rl ru F n (gl - 1) (sFirst g) (sPayAll g rl ru 0 ds (some (sBox g p)) (sOpn g fr s.1 (sBox g p)), s.2) []
      else wRun pf g fr rl ru F n gl (sBeh g p (sMv g p (gOw pf (sOpn g fr s.1 (sBox g p)) s.2 (sBox g p)).1)) (gOw pf (sOpn g fr s.1 (sBox g p)) s.2 (sBox g p)).2 (ds ++ [(sBox g p, (gOw pf (sOpn g fr s.1 (sBox g p)) s.2 (sBox g p)).1)]))
    else wRun pf g fr rl ru F n gl (sBeh g p (gFo pf g F p s).1) (gFo pf g F p s).2 ds)
    else wRun pf g fr rl ru F n (gl - 1) (sFirst g) (sPayAll g rl ru (sEnd g p) ds none s.1, s.2) []
def wVd {τ : Type} (V : sC × τ → (Nat → Nat) → Nat → Prop) (pf : sC × τ → (Nat → Nat) → Nat → Nat × (sC × τ)) (g : zg) (fr : Nat → Nat) (rl : zrl) (ru : Option Nat) (F : zfo) : Nat → Nat → Nat → sC × τ → List (Nat × Nat) → Prop
  | 0, _, _, _, _ => True
  | n + 1, gl, p, s, ds => gl ≠ 0 → if sWork g p < 2 then (if sWork g p = g 8 then
      (if sInB (sOpn g fr s.1 (sBox g p)) (sBox g p) = 0 then wVd V pf g fr rl ru F n (gl - 1) (sFirst g) (sPayAll g rl ru 0 ds (some (sBox g p)) (sOpn g fr s.1 (sBox g p)), s.2) []
      else V (sOpn g fr s.1 (sBox g p), s.2) (gBd (sOpn g fr s.1 (sBox g p)) (sBox g p)) 9 ∧ wVd V pf g fr rl ru F n gl (sBeh g p (sMv g p (gOw pf (sOpn g fr s.1 (sBox g p)) s.2 (sBox g p)).1)) (gOw pf (sOpn g fr s.1 (sBox g p)) s.2 (sBox g p)).2 (ds ++ [(sBox g p, (gOw pf (sOpn g fr s.1 (sBox g p)) s.2 (sBox g p)).1)]))
    else gVF V pf g F p s ∧ wVd V pf g fr rl ru F n gl (sBeh g p (gFo pf g F p s).1) (gFo pf g F p s).2 ds)
    else wVd V pf g fr rl ru F n (gl - 1) (sFirst g) (sPayAll g rl ru (sEnd g p) ds none s.1, s.2) []
/-- games, one after another -/
def wGs {τ : Type} (pf : sC × τ → (Nat → Nat) → Nat → Nat × (sC × τ)) (g : zg) (fr : Nat → Nat) (rl : zrl) (ru : Option Nat) (F : zfo) : Nat → sC × τ → sC × τ
  | 0, s => s
  | k + 1, s => wGs pf g fr rl ru F k (gPaid g rl ru (gRun pf g fr F 21 (sFirst g) s [] []), (gRun pf g fr F 21 (sFirst g) s [] []).2.1.2)
def wGv {τ : Type} (V : sC × τ → (Nat → Nat) → Nat → Prop) (pf : sC × τ → (Nat → Nat) → Nat → Nat × (sC × τ)) (g : zg) (fr : Nat → Nat) (rl : zrl) (ru : Option Nat) (F : zfo) : Nat → sC × τ → Prop
  | 0, _ => True
  | k + 1, s => gVR V pf g fr F 21 (sFirst g) s ∧ wGv V pf g fr rl ru F k (gPaid g rl ru (gRun pf g fr F 21 (sFirst g) s [] []), (gRun pf g fr F 21 (sFirst g) s [] []).2.1.2)
section
variable {τ : Type} {V : sC × τ → (Nat → Nat) → Nat → Prop} {pf : sC × τ → (Nat → Nat) → Nat → Nat × (sC × τ)} {g : zg} {fr : Nat → Nat} {F : zfo} {rl : zrl} {ru : Option Nat}
theorem wRun_0 (n p : Nat) (s : sC × τ) (ds : List (Nat × Nat)) : wRun pf g fr rl ru F n 0 p s ds = s := by
  cases n with
  | zero => rfl
  | succ n => exact if_pos rfl
/-- a walk is a game, and the games behind it -/
theorem wRun_gs (hg : gOk g) (hpf : kPf V pf) (hok : foOk F) : ∀ (n m gl p : Nat) (s : sC × τ) (ds : List (Nat × Nat)) (ts : List Nat), sDep g p < m → sDep g p + 1 + 21 * gl ≤ n → pInv g p s.1 ds ts → wVd V pf g fr rl ru F n (gl + 1) p s ds → gVR V pf g fr F m p s ∧ wRun pf g fr rl ru F n (gl + 1) p s ds = wGs pf g fr rl ru F gl (gPaid g rl ru (gRun pf g fr F m p s ds ts), (gRun pf g fr F m p s ds ts).2.1.2) ∧ wGv V pf g fr rl ru F gl (gPaid g rl ru (gRun pf g fr F m p s ds ts), (gRun pf g fr F m p s ds ts).2.1.2) := by
  intro n
  induction n with
  | zero => intro m gl p s ds ts h1 h2; omega
  | succ n ih =>
    intro m gl p s ds ts hm hn hi hv
    obtain ⟨m, rfl⟩ : ∃ m', m = m' + 1 := ⟨m - 1, by omega⟩
    have hdf := sDep_first g hg
    have hv := hv (Nat.succ_ne_zero gl)
    rw [wRun, if_neg (Nat.succ_ne_zero gl), gRun]
    -- a game that has ended
    have over : ∀ s' : sC × τ, cIn g s'.1 → wVd V pf g fr rl ru F n gl (sFirst g) s' [] → wRun pf g fr rl ru F n gl (sFirst g) s' [] = wGs pf g fr rl ru F gl s' ∧ wGv V pf g fr rl ru F gl s' := by
      intro s' hin hv'
      cases gl with
      | zero => exact ⟨wRun_0 _ _ _ _, trivial⟩
      | succ k =>
        obtain ⟨a, b, c⟩ := ih 21 k (sFirst g) s' [] [] (by omega) (by omega) (pInv_0 hg hin) hv'
        exact ⟨b, a, c⟩
    by_cases c : sWork g p < 2
    · rw [if_pos c] at hv ⊢
      rw [if_pos c]
      have dp := sDep_pos hg c
      by_cases c2 : sWork g p = g 8
      · rw [if_pos c2] at hv ⊢
        rw [if_pos c2]
        by_cases c3 : sInB (sOpn g fr s.1 (sBox g p)) (sBox g p) = 0
        · rw [if_pos c3] at hv ⊢
          rw [if_pos c3]
          obtain ⟨o1, o2, o3⟩ := sOpn_in hg (fr := fr) hi.2.1 hi.1 c2
          have pin := (sPayAll_in hg (rl := rl) (ru := ru) (e := 0) (em := some (sBox g p)) o1 (fun d hx => ⟨o3 _ (hi.2.2.1 d hx).1, (hi.2.2.1 d hx).2⟩) (fun b hb => by injection hb with hb; rw [← hb]; exact o2)).1
          rw [Nat.add_sub_cancel] at hv ⊢
          obtain ⟨b1, b2⟩ := over (sPayAll g rl ru 0 ds (some (sBox g p)) (sOpn g fr s.1 (sBox g p)), s.2) pin hv
          exact ⟨fun _ => ⟨fun _ z => absurd c3 z, fun z => absurd c2 z⟩, b1, b2⟩
        · rw [if_neg c3] at hv ⊢
          rw [if_neg c3]
          obtain ⟨w1, w2⟩ := hv
          obtain ⟨m1, m2⟩ := gInv_own hg hpf (fr := fr) hi c2 c c3 w1
          have hdl := sDep_lt hg m1
          obtain ⟨a, b, d⟩ := ih m gl _ _ _ _ (by omega) (by omega) m2 w2
          exact ⟨fun _ => ⟨fun _ _ => ⟨w1, a⟩, fun z => absurd c2 z⟩, b, d⟩
      · rw [if_neg c2] at hv ⊢
        rw [if_neg c2]
        obtain ⟨w1, w2⟩ := hv
        obtain ⟨m1, m2⟩ := gInv_foe hg hpf hok hi c w1
        have hdl := sDep_lt hg m1
        obtain ⟨a, b, d⟩ := ih m gl _ _ _ _ (by omega) (by omega) m2 w2
        exact ⟨fun _ => ⟨fun z => absurd z c2, fun _ => ⟨w1, a⟩⟩, b, d⟩
    · rw [if_neg c] at hv ⊢
      rw [if_neg c]
      have pin := (sPayAll_in hg (rl := rl) (ru := ru) (e := sEnd g p) (em := none) hi.2.1 hi.2.2.1 (fun b hb => by cases hb)).1
      rw [Nat.add_sub_cancel] at hv ⊢
      obtain ⟨b1, b2⟩ := over (sPayAll g rl ru (sEnd g p) ds none s.1, s.2) pin hv
      exact ⟨fun z => absurd z c, b1, b2⟩
end
