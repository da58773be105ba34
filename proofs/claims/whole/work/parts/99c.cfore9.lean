-- ===== the class: the forecast: all positions below one =====
/-- what the forecast stands on -/
def meW (g : zg) (fr : Nat → Nat) (c : sC) (F : zfo) (O B P FO FA FB FC FD : Nat) (T : Int32) (I : zI) : Prop := kLay g I ∧ kFr fr 69 I ∧ kC g c O B P I ∧ kFo FO FA FB FC FD F I ∧ I 89 6 = T
theorem meW_of {g : zg} {fr : Nat → Nat} {c : sC} {F : zfo} {O B P FO FA FB FC FD : Nat} {T : Int32} {I I' : zI} (hO : kCo O B P) (hFb : kFb FO FA FB FC FD) (h : meW g fr c F O B P FO FA FB FC FD T I) (ho : ∀ o, o ≠ 90 → o ≠ 91 → I' o = I o) : meW g fr c F O B P FO FA FB FC FD T I' := by
  have hi := kFb_hi hFb
  obtain ⟨h1, h2, h3, h4, h5⟩ := h
  have nO : (O ≠ 90 ∧ O ≠ 91) ∧ (B ≠ 90 ∧ B ≠ 91) ∧ P ≠ 90 ∧ P ≠ 91 := by
    rcases hO with ⟨x, y, z⟩ | ⟨x, y, z⟩ | ⟨x, y, z⟩ | ⟨x, y, z⟩ | ⟨x, y, z⟩ <;> (subst x y z; decide)
  refine ⟨kLay_of h1 (fun o z1 z2 => ho o (by omega) (by omega)), ?_, kC_of h3 (ho B nO.2.1.1 nO.2.1.2) (ho P nO.2.2.1 nO.2.2.2) (fun k _ => by rw [ho O nO.1.1 nO.1.2]), ?_, ?_⟩
  · unfold kFr
    rw [ho 69 (by decide) (by decide)]
    exact h2
  · unfold kFo
    rw [ho FO (by omega) (by omega), ho FA (by omega) (by omega), ho FB (by omega) (by omega), ho FC (by omega) (by omega), ho FD (by omega) (by omega)]
    exact h4
  · rw [ho 89 (by decide) (by decide)]
    exact h5
/-- marked positions up to a depth have their odds -/
def meR (g : zg) (v : Nat → Nat → Nat) (d : Nat) (T : Int32) (I : zI) : Prop := ∀ x, x < 19683 → I 91 x = T → sDep g x ≤ d → ∀ e, e < 3 → I 90 (3 * x + e) = nI (v x e)
def meF (g : zg) (d : Nat) (T : Int32) (I : zI) (L : zL) (I' : zI) (L' : zL) : Prop := (∀ x, d < sDep g x → I' 91 x = I 91 x ∧ ∀ e, e < 3 → I' 90 (3 * x + e) = I 90 (3 * x + e)) ∧ (∀ x, I' 91 x = I 91 x ∨ I' 91 x = T) ∧ (∀ o, o ≠ 90 → o ≠ 91 → I' o = I o) ∧ ∀ o, o ≠ 93 → L' o = L o
def meS (g : zg) (v : Nat → Nat → Nat) (d p : Nat) (T : Int32) (I : zI) (L : zL) (I' : zI) (L' : zL) : Prop := (∀ x, x < 19683 → x ≠ p → I' 91 x = T → sDep g x ≤ d → ∀ e, e < 3 → I' 90 (3 * x + e) = nI (v x e)) ∧ I' 91 p = T ∧ meF g d T I L I' L'
theorem meS_step {g : zg} {v : Nat → Nat → Nat} {d d' p : Nat} {T : Int32} {I I' I'' : zI} {L L' L'' : zL} (hp : sDep g p = d) (hd : d' < d) (h : meS g v d p T I L I' L') (h1 : meR g v d' T I'') (h2 : meF g d' T I' L' I'' L'') : meS g v d p T I L I'' L'' := by
  obtain ⟨a1, a2, a3, a4, a5, a6⟩ := h
  obtain ⟨b3, b4, b5, b6⟩ := h2
  refine ⟨fun x hx hxp hm hdx e he => ?_, (b4 p).elim (fun e => e.trans a2) id, fun x hx => ⟨(b3 x (by omega)).1.trans (a3 x hx).1, fun e he => ((b3 x (by omega)).2 e he).trans ((a3 x hx).2 e he)⟩, fun x => (b4 x).elim (fun e => (a4 x).elim (fun e2 => Or.inl (e.trans e2)) (fun e2 => Or.inr (e.trans e2))) Or.inr, fun o z1 z2 => (b5 o z1 z2).trans (a5 o z1 z2), fun o z => (b6 o z).trans (a6 o z)⟩
  by_cases c : sDep g x ≤ d'
  · exact h1 x hx hm c e he
  · have b := b3 x (by omega)
    rw [b.2 e he]
    exact a1 x hx hxp (b.1.symm.trans hm) hdx e he
/-- the contract of measure at the depth d -/
def MeP (G : zG) (g : zg) (fr : Nat → Nat) (c : sC) (F : zfo) (O B P FO FA FB FC FD : Nat) (T : Int32) (d : Nat) : Prop := ∀ (p N deep : Nat) (I : zI) (L : zL) (post : zPo), sDep g p = d → d + 8 ≤ N → deep + d ≤ 40 → meW g fr c F O B P FO FA FB FC FD T I → sR g p → meR g (sOd g fr c F) d T I → (∀ (I' : zI) (L' : zL), meR g (sOd g fr c F) d T I' → I' 91 p = T → meF g d T I L I' L' → post none I' L' (zR1 (some O, some FO, some 69))) → zC G N 168 [.ref 89, .int (nI p), .int (nI deep)] I L (zR1 (some O, some FO, some 69)) post
section
variable {G : zG} {n : Nat} {g : zg} {fr : Nat → Nat} {c : sC} {F : zfo} {O B P FO FA FB FC FD : Nat} {T : Int32}
set_option maxHeartbeats 2000000 in
theorem me_all (hO : kCo O B P) (hFb : kFb FO FA FB FC FD) (hok : foOk F) (hin : cIn g c) (d : Nat) : MeP G g fr c F O B P FO FA FB FC FD T d := by
  induction d using Nat.strongRecOn with
  | _ d ih =>
    intro p N deep I L post hd hN hdeep hw hr hpre h
    obtain ⟨hL, hfr, hc, hF, hT⟩ := id hw
    have hg := hL.1.1
    have hp1 := sR_lt hg hr
    have h8 := hg.2.2.2.2.2.2.2.2
    have hwk4 := sWork_le g p
    have hFb' := hFb
    have ec : (nI p).toNatClampNeg = p := nI_clamp (by omega)
    have inp : vp_in (nI p) 19683 := vp_in_nI hp1 (by decide)
    obtain ⟨N, rfl⟩ : ∃ m, N = m + 8 := ⟨N - 8, by omega⟩
    refine zin0 rfl rfl rfl (b168_0 (pk_lt 40 deep (fun z => absurd z (by omega)) (fun _ => And.intro (fun z => absurd z (nI_pos (by omega))) (fun _ => pk_le 19683 p (fun z => absurd z (by omega)) (fun _ => And.intro inp ?_) rfl rfl (by omega) (by omega))) rfl rfl (by omega) (by omega)))
    show (I 91 (nI p).toNatClampNeg = I 89 6 → _) ∧ (¬ I 91 (nI p).toNatClampNeg = I 89 6 → _)
    rw [ec, hT]
    refine And.intro (fun z => b168_37 (h I L hpre z ⟨fun _ _ => ⟨rfl, fun _ _ => rfl⟩, fun _ => Or.inl rfl, fun _ _ _ => rfl, fun _ _ => rfl⟩)) (fun z => b168_38 (And.intro inp ?_))
    rw [ec, hT]
    obtain ⟨I2, hI2⟩ : ∃ I2 : zI, I2 = zup I 91 p T := ⟨_, rfl⟩
    rw [← hI2]
    have a1 : ∀ x, I2 91 x = if x = p then T else I 91 x := fun x => by rw [hI2, zup_eq]
    have a3 : ∀ o, o ≠ 91 → I2 o = I o := fun o h1 => by rw [hI2, zup_ne h1]
    have hW2 := meW_of hO hFb hw (I' := I2) (fun o _ z2 => a3 o z2)
    have S2 : meS g (sOd g fr c F) d p T I L I2 L := by
      refine ⟨fun x hx hxp hm hdx e he => ?_, by rw [a1, if_pos rfl], fun x hx => ⟨?_, fun e he => by rw [a3 90 (by decide)]⟩, fun x => ?_, fun o _ z2 => a3 o z2, fun _ _ => rfl⟩
      · rw [a1, if_neg hxp] at hm
        rw [a3 90 (by decide)]
        exact hpre x hx hm hdx e he
      · rw [a1, if_neg (fun z2 => by subst z2; omega)]
      · rw [a1]
        split
        · exact Or.inr rfl
        · exact Or.inl rfl
    -- when p's odds are set
    have done : ∀ (I' J : zI) (L' L1 : zL), meS g (sOd g fr c F) d p T I L I' L' → (∀ e, e < 3 → J 90 (3 * p + e) = nI (sOd g fr c F p e)) → fOd p I' J → (∀ o, o ≠ 93 → L1 o = L' o) → post none J L1 (zR1 (some O, some FO, some 69)) := by
      intro I' J L' L1 ⟨s1, s2, s3, s4, s5, s6⟩ hJ jf jl
      have e91 : ∀ x, J 91 x = I' 91 x := fun x => jf 91 x (fun z => absurd z.1 (by decide))
      refine h J L1 (fun x hx hm hdx e he => ?_) ((e91 p).trans s2) ⟨fun x hx => ⟨(e91 x).trans (s3 x hx).1, fun e he => ?_⟩, fun x => (s4 x).elim (fun e => Or.inl ((e91 x).trans e)) (fun e => Or.inr ((e91 x).trans e)), fun o z1 z2 => ?_, fun o z => (jl o z).trans (s6 o z)⟩
      · by_cases cx : x = p
        · subst cx
          exact hJ e he
        · rw [jf 90 _ (fun z => cx (by omega))]
          exact s1 x hx cx ((e91 x).symm.trans hm) hdx e he
      · have cx : x ≠ p := fun z => by subst z; omega
        rw [jf 90 _ (fun z => cx (by omega))]
        exact (s3 x hx).2 e he
      · rw [← s5 o z1 z2]
        exact funext fun k => jf o k (fun z => z1 z.1)
    -- the loop over a mask of moves
    have loop : ∀ (own : Int32) (a : Nat), a < 512 → (∀ m, a.testBit m = true → sWork g p < 2 ∧ sCan g p m = true) → (∀ (I' : zI) (L' : zL) (v5 : Option Value), meW g fr c F O B P FO FA FB FC FD T I' → meS g (sOd g fr c F) d p T I L I' L' → (∀ m, a.testBit m = true → ∀ e, e < 3 → I' 90 (3 * sBeh g p m + e) = nI (sOd g fr c F (sBeh g p m) e)) → zQ G 168 (N + 7) post 141 [some (.ref 89), some (.int (nI p)), some (.int (nI deep)), some (.int own), some (.int (nI a)), v5] [] I' L' (zR1 (some O, some FO, some 69))) → ∀ j i (I' : zI) (L' : zL), i + j = 9 → meW g fr c F O B P FO FA FB FC FD T I' → meS g (sOd g fr c F) d p T I L I' L' → (∀ m, m < i → a.testBit m = true → I' 91 (sBeh g p m) = T) → zQ G 168 (N + 7) post 101 [some (.ref 89), some (.int (nI p)), some (.int (nI deep)), some (.int own), some (.int (nI a)), some (.int (nI i))] [] I' L' (zR1 (some O, some FO, some 69)) := by
      intro own a ha hm9 fin j
      induction j with
      | zero =>
        intro i I' L' hi hW' hS' hmk
        have e9 : i = 9 := by omega
        subst e9
        refine b168_101 (pk_le 9 9 (fun _ => fin I' L' _ hW' hS' (fun m hm e he => ?_)) (fun z => absurd z (by omega)) rfl rfl (by omega) (by omega))
        have hcan := hm9 m hm
        have hdl := sDep_lt hg hcan.2
        have hch := sR_step hr hcan.1 hcan.2
        exact hS'.1 _ (sR_lt hg hch) (fun z => by rw [z] at hdl; omega) (hmk m (sCan_9 hg hcan.2) hm) (by omega) e he
      | succ j ihj =>
        intro i I' L' hi hW' hS' hmk
        have hi9 : i < 9 := by omega
        refine b168_101 (pk_le 9 i (fun z => absurd z (by omega)) (fun _ => k_holds rfl (by omega) rfl (by omega) (zbo_eq (fun z => b168_135 ?_) (fun z => ?_))) rfl rfl (by omega) (by omega))
        · have qq := ihj (i + 1) I' L' (by omega) hW' hS' (fun m hm hb => by
            by_cases cm : m = i
            · subst cm; rw [z] at hb; cases hb
            · exact hmk m (by omega) hb)
          rw [← nI_1] at qq
          exact qq
        · have hcan := hm9 i z
          have hdl := sDep_lt hg hcan.2
          have hch := sR_step hr hcan.1 hcan.2
          refine k_nextL hW'.1 hr hcan.1 hcan.2 ?_
          show zC G (N + 7) 168 [.ref 89, .int (nI (sBeh g p i)), .int (nI deep + 1)] I' L' (zR1 (some O, some FO, some 69)) _
          rw [nI_1]
          refine ih (sDep g (sBeh g p i)) (by omega) (sBeh g p i) (N + 7) (deep + 1) I' L' _ rfl (by omega) (by omega) hW' hch (fun x hx hm hdx e he => hS'.1 x hx (fun z2 => by subst z2; omega) hm (by omega) e he) (fun I3 L3 r3 m3 f3 => b168_135 ?_)
          have qq := ihj (i + 1) I3 L3 (by omega) (meW_of hO hFb hW' f3.2.2.1) (meS_step hd (by omega) hS' r3 f3) (fun m hm hb => by
            by_cases cm : m = i
            · subst cm; exact m3
            · exact (f3.2.1 _).elim (fun e => e.trans (hmk m (by omega) hb)) id)
          rw [← nI_1] at qq
          exact qq
    have e8 : I2 51 2 = nI (g 8) := hW2.1.2.2.2
    have foes : ∀ (v4 v5 : Option Value), (∀ (a : Nat), a < 512 → (∀ m, a.testBit m = true ↔ sWork g p < 2 ∧ sCan g p m = true ∧ ∃ k, k < F.1 ∧ (F.2.1 k = 102 ∨ m = sFMv g F k p)) → ∀ v5 : Option Value, zQ G 168 (N + 7) post 101 [some (.ref 89), some (.int (nI p)), some (.int (nI deep)), some (.int 0), some (.int (nI a)), some (.int (nI 0))] [] I2 L (zR1 (some O, some FO, some 69))) → zQ G 168 (N + 7) post 71 [some (.ref 89), some (.int (nI p)), some (.int (nI deep)), none, v4, v5] [.int 0] I2 L (zR1 (some O, some FO, some 69)) := by
      intro v4 v5 hh
      have mv := fun post' hp => k_movesAt (G := G) (n := N + 3) (I := I2) (L := L) (q := (some O, some FO, some 69)) (post := post') hFb' hok hW2.2.2.2.1 hW2.1 hr hp
      refine b168_71 (And.intro (fun _ => ?_) (fun z => absurd rfl z))
      rcases hFb with ⟨o1, o2, o3, o4, o5⟩ | ⟨o1, o2, o3, o4, o5⟩ | ⟨o1, o2, o3, o4, o5⟩ | ⟨o1, o2, o3, o4, o5⟩ | ⟨o1, o2, o3, o4, o5⟩ | ⟨o1, o2, o3, o4, o5⟩ | ⟨o1, o2, o3, o4, o5⟩ | ⟨o1, o2, o3, o4, o5⟩ <;> (
        subst o1 o2 o3 o4 o5
        exact b168_84 (mv _ (fun a ha hm => b168_96 (hh a ha hm none))))
    refine k_stateL hW2.1 (fun p' e hr' => ?_) (fun z2 => absurd hr (z2 p rfl (by omega)))
    have e2 := nI_inj (by omega) (by have := sR_lt hg hr'; omega) e
    subst e2
    refine pk_ne (sWork g p) (g 8) (fun z2 => b168_70 (foes none none (fun a ha hm v5 => ?_))) (fun z2 => b168_71 (And.intro (fun z3 => absurd z3 (by decide)) (fun _ => ?_))) rfl e8 (by omega) (by omega)
    · -- no position of the chest
      refine loop 0 a ha (fun m hb => ⟨((hm m).mp hb).1, ((hm m).mp hb).2.1⟩) (fun I' L' v5 hW' hS' hod => ?_) 9 0 I2 L (by omega) hW2 S2 (fun m hlt => absurd hlt (Nat.not_lt_zero _))
      by_cases hw2 : sWork g p < 2
      · have hv : ∀ e, sOd g fr c F p e = sOF g F (sOd g fr c F) p e := fun e => by rw [sOd_eq hg, if_pos hw2, if_neg z2]
        refine b168_141 (k_goesOnL hW'.1 (fun p' e hr' hw' => And.intro (fun _ => b168_160 (And.intro (fun _ => b168_172 ?_) (fun z3 => absurd rfl z3))) (fun z3 => absurd z3 (by decide))) (fun z3 => absurd (z3 p rfl (by omega) hr) (by omega)))
        refine k_setFoes hFb' hok hW'.2.2.2.1 hW'.1 hr hw2 (fun m hc hk => hod m ((hm m).mpr ⟨hw2, hc, hk⟩)) (sOd_le g fr c F) (fun J L1 hJ jf jl => b168_177 ?_)
        exact done I' J L' L1 hS' (fun e he => by rw [hJ e he, hv]) jf jl
      · have hv : ∀ e, sOd g fr c F p e = if e = sEnd g p then 1000000000 else 0 := fun e => by rw [sOd_eq hg, if_neg hw2]
        refine b168_141 (k_goesOnL hW'.1 (fun p' e hr' hw' => ?_) (fun _ => And.intro (fun z3 => absurd rfl z3) (fun _ => ?_)))
        · have e2 := nI_inj (by omega) (by have := sR_lt hg hr'; omega) e
          subst e2
          exact absurd hw' hw2
        · exact k_setOver hW'.1 hr (by omega) (fun J hJ jf => b168_177 (done I' J L' L' hS' (fun e he => by rw [hJ e he, hv]) jf (fun _ _ => rfl)))
    · -- a position of the chest
      have hw2 : sWork g p < 2 := by omega
      have hv : ∀ e, sOd g fr c F p e = sOB g fr c (sOd g fr c F) p e := fun e => by rw [sOd_eq hg, if_pos hw2, if_pos z2]
      refine k_ownMoves hO ⟨rfl, rfl⟩ hW2.1 hW2.2.1 hW2.2.2.1 hin hr z2 (fun a ha hm => b168_96 ?_)
      refine loop 1 a ha (fun m hb => ?_) (fun I' L' v5 hW' hS' hod => ?_) 9 0 I2 L (by omega) hW2 S2 (fun m hlt => absurd hlt (Nat.not_lt_zero _))
      · obtain ⟨k, k9, k0, ek⟩ := (hm m).mp hb
        subst ek
        exact ⟨hw2, sMv_can hg (p := p) (sHas_lt hg (sWt_can (g := g) (fr := fr) (c := c) (p := p) (m := k) (by omega))).2⟩
      · refine b168_141 (k_goesOnL hW'.1 (fun p' e hr' hw' => And.intro (fun _ => b168_160 (And.intro (fun z3 => absurd z3 (by decide)) (fun _ => ?_))) (fun z3 => absurd z3 (by decide))) (fun z3 => absurd (z3 p rfl (by omega) hr) (by omega)))
        refine k_setOwn hO ⟨rfl, rfl⟩ hW'.1 hW'.2.1 hW'.2.2.1 hin hr z2 (fun k hk e he => hod _ ((hm _).mpr ⟨k, ?_, hk, rfl⟩) e he) (sOd_le g fr c F) (fun J hJ jf => b168_177 ?_)
        · have := sWt_mm hg hk
          have := sMM_pos hg
          omega
        · exact done I' J L' L' hS' (fun e he => by rw [hJ e he, hv]) jf (fun _ _ => rfl)
end
