-- ===== the class: what a foe shows: going through =====
def reW (g : zg) (F : zfo) (FO FA FB FC FD : Nat) (T : Int32) (I : zI) : Prop := kLay g I ∧ kFo FO FA FB FC FD F I ∧ I 89 6 = T
def reI (g : zg) (F : zfo) (T : Int32) (I : zI) : Prop := (∀ p, p < 19683 → I 91 p = T → sSh g F p) ∧ (∀ j, j < 2423 → (I 92 j = T ↔ ∃ p, p < 19683 ∧ I 91 p = T ∧ sWork g p = g 8 ∧ sl g (sBox g p) = j)) ∧ I 89 7 = nI (sCB (fun j => decide (I 92 j = T)) 2423)
def reN (g : zg) (F : zfo) (T : Int32) (I : zI) (p : Nat) : Prop := sWork g p < 2 → ∀ m, sShM g F p m → I 91 (sBeh g p m) = T
def reF (g : zg) (d : Nat) (T : Int32) (I I' : zI) : Prop := (∀ x, d < sDep g x → I' 91 x = I 91 x) ∧ (∀ x, I' 91 x = I 91 x ∨ I' 91 x = T) ∧ (∀ j, I' 92 j = I 92 j ∨ I' 92 j = T) ∧ (∀ o, o ≠ 89 → o ≠ 91 → o ≠ 92 → I' o = I o) ∧ ∀ k, k ≠ 7 → I' 89 k = I 89 k
def reS (g : zg) (F : zfo) (d p : Nat) (T : Int32) (I I' : zI) : Prop := reI g F T I' ∧ (∀ x, x < 19683 → x ≠ p → I' 91 x = T → sDep g x ≤ d → reN g F T I' x) ∧ I' 91 p = T ∧ reF g d T I I'
theorem reW_of {g : zg} {F : zfo} {FO FA FB FC FD : Nat} {T : Int32} {I I' : zI} (hFb : kFb FO FA FB FC FD) (h : reW g F FO FA FB FC FD T I) (ho : ∀ o, o ≠ 89 → o ≠ 91 → o ≠ 92 → I' o = I o) (h6 : I' 89 6 = I 89 6) : reW g F FO FA FB FC FD T I' := by
  have hi := kFb_hi hFb
  obtain ⟨h1, h4, h5⟩ := h
  refine ⟨kLay_of h1 (fun o z1 z2 => ho o (by omega) (by omega) (by omega)), ?_, h6.trans h5⟩
  unfold kFo
  rw [ho FO (by omega) (by omega) (by omega), ho FA (by omega) (by omega) (by omega), ho FB (by omega) (by omega) (by omega), ho FC (by omega) (by omega) (by omega), ho FD (by omega) (by omega) (by omega)]
  exact h4
theorem reF_tr {g : zg} {d d' : Nat} {T : Int32} {I I' I'' : zI} (hd : d' ≤ d) (h : reF g d T I I') (h2 : reF g d' T I' I'') : reF g d T I I'' := ⟨fun x hx => (h2.1 x (by omega)).trans (h.1 x hx), fun x => (h2.2.1 x).elim (fun e => (h.2.1 x).elim (fun e2 => Or.inl (e.trans e2)) (fun e2 => Or.inr (e.trans e2))) Or.inr, fun x => (h2.2.2.1 x).elim (fun e => (h.2.2.1 x).elim (fun e2 => Or.inl (e.trans e2)) (fun e2 => Or.inr (e.trans e2))) Or.inr, fun o z1 z2 z3 => (h2.2.2.2.1 o z1 z2 z3).trans (h.2.2.2.1 o z1 z2 z3), fun k z => (h2.2.2.2.2 k z).trans (h.2.2.2.2 k z)⟩
theorem reN_of {g : zg} {F : zfo} {T : Int32} {I I' : zI} {p : Nat} (h : reN g F T I p) (h1 : ∀ x, I' 91 x = I 91 x ∨ I' 91 x = T) : reN g F T I' p := fun hw m hm => (h1 _).elim (fun e => e.trans (h hw m hm)) id
theorem reS_step {g : zg} {F : zfo} {d d' p : Nat} {T : Int32} {I I' I'' : zI} (hp : sDep g p = d) (hd : d' < d) (h : reS g F d p T I I') (hi : reI g F T I'') (h1 : ∀ x, x < 19683 → I'' 91 x = T → sDep g x ≤ d' → reN g F T I'' x) (h2 : reF g d' T I' I'') : reS g F d p T I I'' := by
  obtain ⟨a1, a2, a3, a4⟩ := h
  refine ⟨hi, fun x hx hxp hm hdx => ?_, (h2.2.1 p).elim (fun e => e.trans a3) id, reF_tr (by omega) a4 h2⟩
  by_cases c : sDep g x ≤ d'
  · exact h1 x hx hm c
  · exact reN_of (a2 x hx hxp ((h2.1 x (by omega)).symm.trans hm) hdx) h2.2.1
def ReP (G : zG) (g : zg) (F : zfo) (FO FA FB FC FD : Nat) (T : Int32) (L : zL) (qc qf : Option Nat) (d : Nat) : Prop := ∀ (p N deep : Nat) (I : zI) (post : zPo), sDep g p = d → d + 8 ≤ N → deep + d ≤ 40 → reW g F FO FA FB FC FD T I → sSh g F p → reI g F T I → (∀ x, x < 19683 → I 91 x = T → sDep g x ≤ d → reN g F T I x) → (∀ I' : zI, reI g F T I' → (∀ x, x < 19683 → I' 91 x = T → sDep g x ≤ d → reN g F T I' x) → I' 91 p = T → reF g d T I I' → post none I' L (zR1 (qc, some FO, qf))) → zC G N 177 [.ref 89, .int (nI p), .int (nI deep)] I L (zR1 (qc, some FO, qf)) post
section
variable {G : zG} {n : Nat} {g : zg} {F : zfo} {FO FA FB FC FD : Nat} {T : Int32} {L : zL} {qc qf : Option Nat}
set_option maxHeartbeats 2000000 in
theorem re_all (hFb : kFb FO FA FB FC FD) (hok : foOk F) (d : Nat) : ReP G g F FO FA FB FC FD T L qc qf d := by
  induction d using Nat.strongRecOn with
  | _ d ih =>
    intro p N deep I post hd hN hdeep hw hsh hri hfin h
    obtain ⟨hL, hF, hT⟩ := id hw
    have hg := hL.1.1
    have hr := sSh_R hsh
    have hp1 := sR_lt hg hr
    have h8 := hg.2.2.2.2.2.2.2.2
    have hwk4 := sWork_le g p
    have hFb' := hFb
    have ec : (nI p).toNatClampNeg = p := nI_clamp (by omega)
    have inp : vp_in (nI p) 19683 := vp_in_nI hp1 (by decide)
    obtain ⟨N, rfl⟩ : ∃ m, N = m + 8 := ⟨N - 8, by omega⟩
    refine zin0 rfl rfl rfl (b177_0 (pk_lt 40 deep (fun z => absurd z (by omega)) (fun _ => And.intro (fun z => absurd z (nI_pos (by omega))) (fun _ => pk_le 19683 p (fun z => absurd z (by omega)) (fun _ => And.intro inp ?_) rfl rfl (by omega) (by omega))) rfl rfl (by omega) (by omega)))
    show (I 91 (nI p).toNatClampNeg = I 89 6 → _) ∧ (¬ I 91 (nI p).toNatClampNeg = I 89 6 → _)
    rw [ec, hT]
    refine And.intro (fun z => b177_37 (h I hri hfin z ⟨fun _ _ => rfl, fun _ => Or.inl rfl, fun _ => Or.inl rfl, fun _ _ _ _ => rfl, fun _ _ => rfl⟩)) (fun zn => b177_38 (And.intro inp ?_))
    rw [ec, hT]
    obtain ⟨I2, hI2⟩ : ∃ I2 : zI, I2 = zup I 91 p T := ⟨_, rfl⟩
    rw [← hI2]
    have a1 : ∀ x, I2 91 x = if x = p then T else I 91 x := fun x => by rw [hI2, zup_eq]
    have a3 : ∀ o, o ≠ 91 → I2 o = I o := fun o h1 => by rw [hI2, zup_ne h1]
    have hW2 := reW_of hFb hw (I' := I2) (fun o _ z2 _ => a3 o z2) (by rw [a3 89 (by decide)])
    have T2 : I2 89 6 = T := hW2.2.2
    have mk2 : ∀ x, I2 91 x = I 91 x ∨ I2 91 x = T := fun x => by
      rw [a1]
      split
      · exact Or.inr rfl
      · exact Or.inl rfl
    have noted : ∃ x : Int32, (∀ post' : zPo, post' (some (.int x)) I2 L (zR1 (qc, some FO, qf)) → zC G (N + 7) 188 [.ref 51, .int (nI p)] I2 L (zR1 (qc, some FO, qf)) post') ∧ ∀ post' : zPo, (∀ I3 : zI, I3 91 = I2 91 → reI g F T I3 → (∀ j, I3 92 j = I 92 j ∨ I3 92 j = T) → (∀ o, o ≠ 89 → o ≠ 91 → o ≠ 92 → I3 o = I o) → (∀ k, k ≠ 7 → I3 89 k = I 89 k) → post' none I3 L (zR1 (qc, some FO, qf))) → zC G (N + 7) 178 [.ref 89, .int x] I2 L (zR1 (qc, some FO, qf)) post' := by
      have snd : ∀ x, x < 19683 → I2 91 x = T → sSh g F x := fun x hx hm => by
        rw [a1] at hm
        by_cases cx : x = p
        · rw [cx]; exact hsh
        · rw [if_neg cx] at hm
          exact hri.1 x hx hm
      by_cases z : sWork g p = g 8
      · have hb := sB_box hg hr z
        have hsl := sl_lt hg hb
        refine ⟨nI (sl g (sBox g p)), fun post' hp => k_slotP hW2.1 hr z hp, fun post' hp => ?_⟩
        refine k_noteShown (s := sl g (sBox g p)) (T := T) (by omega) T2 (fun e => hp I2 rfl ⟨snd, fun j hj => ?_, ?_⟩ (fun j => by rw [a3 92 (by decide)]; exact Or.inl rfl) (fun o _ z2 _ => a3 o z2) (fun k _ => by rw [a3 89 (by decide)])) (fun e => ?_)
        · rw [a3 92 (by decide), hri.2.1 j hj]
          constructor
          · rintro ⟨x, x1, x2, x3⟩
            exact ⟨x, x1, (mk2 x).elim (fun e => e.trans x2) id, x3⟩
          · rintro ⟨x, x1, x2, x3⟩
            by_cases cx : x = p
            · rw [a3 92 (by decide)] at e
              subst cx
              have := (hri.2.1 j hj).mp (by rw [← x3.2]; exact e)
              exact this
            · rw [a1, if_neg cx] at x2
              exact ⟨x, x1, x2, x3⟩
        · rw [a3 89 (by decide), a3 92 (by decide)]
          exact hri.2.2
        · rw [a3 92 (by decide)] at e
          obtain ⟨I3, hI3⟩ : ∃ I3 : zI, I3 = zup (zup I2 92 (sl g (sBox g p)) T) 89 7 (I2 89 7 + 1) := ⟨_, rfl⟩
          rw [← hI3]
          have b2 : ∀ j, I3 92 j = if j = sl g (sBox g p) then T else I 92 j := fun j => by rw [hI3, zup_ne (by decide), zup_eq, a3 92 (by decide)]
          have b1 : I3 91 = I2 91 := by rw [hI3, zup_ne (by decide), zup_ne (by decide)]
          have b9 : ∀ k, I3 89 k = if k = 7 then I 89 7 + 1 else I 89 k := fun k => by rw [hI3, zup_eq, zup_ne (by decide), a3 89 (by decide)]
          refine hp I3 b1 ⟨fun x hx hm => snd x hx (by rw [← b1]; exact hm), fun j hj => ?_, ?_⟩ (fun j => ?_) (fun o z1 z2 z3 => by rw [hI3, zup_ne z1, zup_ne z3, a3 o z2]) (fun k hk => by rw [b9, if_neg hk])
          · rw [b2, b1]
            constructor
            · intro hm
              by_cases cj : j = sl g (sBox g p)
              · exact ⟨p, hp1, by rw [a1, if_pos rfl], z, cj.symm⟩
              · rw [if_neg cj, hri.2.1 j hj] at hm
                obtain ⟨x, x1, x2, x3⟩ := hm
                exact ⟨x, x1, (mk2 x).elim (fun e => e.trans x2) id, x3⟩
            · rintro ⟨x, x1, x2, x3⟩
              by_cases cj : j = sl g (sBox g p)
              · rw [if_pos cj]
              · rw [if_neg cj, hri.2.1 j hj]
                by_cases cx : x = p
                · subst cx
                  exact absurd x3.2.symm cj
                · rw [a1, if_neg cx] at x2
                  exact ⟨x, x1, x2, x3⟩
          · rw [b9, if_pos rfl, hri.2.2, nI_1]
            refine congrArg nI ((sCB_rem (f := fun j => decide (I3 92 j = T)) (f' := fun j => decide (I 92 j = T)) (y := sl g (sBox g p)) (decide_eq_true (by rw [b2, if_pos rfl])) (decide_eq_false e) (fun x hx => ?_) 2423).2 (by omega)).symm
            show decide (I 92 x = T) = decide (I3 92 x = T)
            rw [b2, if_neg hx]
          · rw [b2]
            split
            · exact Or.inr rfl
            · exact Or.inl rfl
      · refine ⟨-1, fun post' hp => k_slotOf hW2.1 (fun p' e hr' hw' => ?_) (fun _ => hp), fun post' hp => k_noteShown0 (hp I2 rfl ⟨snd, fun j hj => ?_, ?_⟩ (fun j => by rw [a3 92 (by decide)]; exact Or.inl rfl) (fun o _ z2 _ => a3 o z2) (fun k _ => by rw [a3 89 (by decide)]))⟩
        · have e2 := nI_inj (by omega) (by have := sR_lt hg hr'; omega) e
          subst e2
          exact absurd hw' z
        · rw [a3 92 (by decide), hri.2.1 j hj]
          constructor
          · rintro ⟨x, x1, x2, x3⟩
            exact ⟨x, x1, (mk2 x).elim (fun e => e.trans x2) id, x3⟩
          · rintro ⟨x, x1, x2, x3⟩
            by_cases cx : x = p
            · subst cx
              exact absurd x3.1 z
            · rw [a1, if_neg cx] at x2
              exact ⟨x, x1, x2, x3⟩
        · rw [a3 89 (by decide), a3 92 (by decide)]
          exact hri.2.2
    obtain ⟨x0, sx, nx⟩ := noted
    refine sx _ (nx _ (fun I3 c1 c2 c3 c4 c5 => ?_))
    have hW3 := reW_of hFb hw (I' := I3) c4 (c5 6 (by decide))
    have S3 : reS g F d p T I I3 := by
      refine ⟨c2, fun x hx hxp hm hdx => ?_, by rw [c1, a1, if_pos rfl], fun x hx => ?_, fun x => by rw [c1]; exact mk2 x, c3, c4, c5⟩
      · rw [c1, a1, if_neg hxp] at hm
        exact reN_of (hfin x hx hm hdx) (fun y => by rw [c1]; exact mk2 y)
      · rw [c1, a1, if_neg (fun z2 => by subst z2; omega)]
    have done : ∀ I' : zI, reS g F d p T I I' → reN g F T I' p → post none I' L (zR1 (qc, some FO, qf)) := by
      intro I' ⟨s1, s2, s3, s4⟩ hfp
      refine h I' s1 (fun x hx h1 hdx => ?_) s3 s4
      by_cases cx : x = p
      · subst cx; exact hfp
      · exact s2 x hx cx h1 hdx
    have loop : ∀ (own : Int32) (a : Nat), a < 512 → (∀ m, a.testBit m = true ↔ sWork g p < 2 ∧ sShM g F p m) → ∀ j i (I' : zI), i + j = 9 → reW g F FO FA FB FC FD T I' → reS g F d p T I I' → (∀ m, m < i → a.testBit m = true → I' 91 (sBeh g p m) = T) → zQ G 177 (N + 7) post 116 [some (.ref 89), some (.int (nI p)), some (.int (nI deep)), some (.int own), some (.int (nI a)), some (.int (nI i))] [] I' L (zR1 (qc, some FO, qf)) := by
      intro own a ha hm9 j
      induction j with
      | zero =>
        intro i I' hi hW' hS' hmk
        have e9 : i = 9 := by omega
        subst e9
        refine b177_116 (pk_le 9 9 (fun _ => b177_156 (done I' hS' (fun hw2 m hm => ?_))) (fun z => absurd z (by omega)) rfl rfl (by omega) (by omega))
        exact hmk m (sCan_9 hg hm.1) ((hm9 m).mpr ⟨hw2, hm⟩)
      | succ j ihj =>
        intro i I' hi hW' hS' hmk
        have hi9 : i < 9 := by omega
        refine b177_116 (pk_le 9 i (fun z => absurd z (by omega)) (fun _ => k_holds rfl (by omega) rfl (by omega) (zbo_eq (fun z => b177_150 ?_) (fun z => ?_))) rfl rfl (by omega) (by omega))
        · have qq := ihj (i + 1) I' (by omega) hW' hS' (fun m hm hb => by
            by_cases cm : m = i
            · subst cm; rw [z] at hb; cases hb
            · exact hmk m (by omega) hb)
          rw [← nI_1] at qq
          exact qq
        · have hcan := (hm9 i).mp z
          have hdl := sDep_lt hg hcan.2.1
          refine k_nextL hW'.1 hr hcan.1 hcan.2.1 ?_
          show zC G (N + 7) 177 [.ref 89, .int (nI (sBeh g p i)), .int (nI deep + 1)] I' L (zR1 (qc, some FO, qf)) _
          rw [nI_1]
          refine ih (sDep g (sBeh g p i)) (by omega) (sBeh g p i) (N + 7) (deep + 1) I' _ rfl (by omega) (by omega) hW' (sSh_step hsh hcan.1 hcan.2) hS'.1 (fun x hx hm hdx => hS'.2.1 x hx (fun z2 => by subst z2; omega) hm (by omega)) (fun I4 r4 n4 m4 f4 => b177_150 ?_)
          have qq := ihj (i + 1) I4 (by omega) (reW_of hFb hW' f4.2.2.2.1 (f4.2.2.2.2 6 (by decide))) (reS_step hd (by omega) hS' r4 n4 f4) (fun m hm hb => by
            by_cases cm : m = i
            · subst cm; exact m4
            · exact (f4.2.1 _).elim (fun e => e.trans (hmk m (by omega) hb)) id)
          rw [← nI_1] at qq
          exact qq
    have e8 : I3 51 2 = nI (g 8) := hW3.1.2.2.2
    have foes : (∀ (a : Nat), a < 512 → (∀ m, a.testBit m = true ↔ sWork g p < 2 ∧ sCan g p m = true ∧ ∃ k, k < F.1 ∧ (F.2.1 k = 102 ∨ m = sFMv g F k p)) → zQ G 177 (N + 7) post 116 [some (.ref 89), some (.int (nI p)), some (.int (nI deep)), some (.int 0), some (.int (nI a)), some (.int (nI 0))] [] I3 L (zR1 (qc, some FO, qf))) → zQ G 177 (N + 7) post 83 [some (.ref 89), some (.int (nI p)), some (.int (nI deep)), none, none, none] [.int 0] I3 L (zR1 (qc, some FO, qf)) := by
      intro hh
      have mv := fun post' hp => k_movesAt (G := G) (n := N + 3) (I := I3) (L := L) (q := (qc, some FO, qf)) (post := post') hFb' hok hW3.2.1 hW3.1 hr hp
      refine b177_83 (And.intro (fun _ => ?_) (fun z => absurd rfl z))
      rcases hFb with ⟨o1, o2, o3, o4, o5⟩ | ⟨o1, o2, o3, o4, o5⟩ | ⟨o1, o2, o3, o4, o5⟩ | ⟨o1, o2, o3, o4, o5⟩ | ⟨o1, o2, o3, o4, o5⟩ | ⟨o1, o2, o3, o4, o5⟩ | ⟨o1, o2, o3, o4, o5⟩ | ⟨o1, o2, o3, o4, o5⟩ <;> (
        subst o1 o2 o3 o4 o5
        exact b177_99 (mv _ (fun a ha hm => b177_111 (hh a ha hm))))
    refine k_stateL hW3.1 (fun p' e hr' => ?_) (fun z2 => absurd hr (z2 p rfl (by omega)))
    have e2 := nI_inj (by omega) (by have := sR_lt hg hr'; omega) e
    subst e2
    refine pk_ne (sWork g p) (g 8) (fun z2 => b177_82 (foes (fun a ha hm => ?_))) (fun z2 => b177_83 (And.intro (fun z3 => absurd z3 (by decide)) (fun _ => ?_))) rfl e8 (by omega) (by omega)
    · refine loop 0 a ha (fun m => (hm m).trans ⟨fun w => ⟨w.1, w.2.1, Or.inr w.2.2⟩, fun w => ⟨w.1, w.2.1, w.2.2.elim (fun w2 => absurd w2 z2) id⟩⟩) 9 0 I3 (by omega) hW3 S3 (fun m hlt => absurd hlt (Nat.not_lt_zero _))
    · have hw2 : sWork g p < 2 := by omega
      refine k_legalL hW3.1 hr hw2 (b177_111 ?_)
      exact loop 1 (sLg g p) (sLg_lt g p) (fun m => by
        rw [sLg_tb hg]
        exact ⟨fun w => ⟨hw2, w, Or.inl z2⟩, fun w => w.2.1⟩) 9 0 I3 (by omega) hW3 S3 (fun m hlt => absurd hlt (Nat.not_lt_zero _))
end
