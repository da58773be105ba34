-- ===== the reference: boxes, what a foe shows =====
def sFs (g : zg) (sn : Nat → Bool) (p : Nat) : Nat → Bool
  | 0 => true
  | t + 1 => if t = 0 then true else sFs g sn p t && !(decide (sTP g p t < p) && sn (sTP g p t))
def sBxf (g : zg) (sn : Nat → Bool) (p : Nat) : Bool := sn p && (decide (sWork g p = g 8) && sFs g sn p (sTurns g))
/-- how many boxes of the chest's are seen -/
def sBxc (g : zg) (sn : Nat → Bool) : Nat := sCB (sBxf g sn) 19683
theorem sFs_no {g : zg} {sn : Nat → Bool} {p t : Nat} (h : sFs g sn p t = false) : ∀ j, sFs g sn p (t + j) = false
  | 0 => h
  | j + 1 => by
    have a := sFs_no h j
    rw [show t + (j + 1) = (t + j) + 1 from rfl, sFs]
    by_cases z : t + j = 0
    · rw [z, sFs] at a
      cases a
    · rw [if_neg z, a]
      rfl
/-- a move that a foe's game may have -/
def sShM (g : zg) (F : zfo) (p m : Nat) : Prop := sCan g p m = true ∧ (sWork g p = g 8 ∨ ∃ k, k < F.1 ∧ (F.2.1 k = 102 ∨ m = sFMv g F k p))
/-- positions that come up against a foe -/
def sSh (g : zg) (F : zfo) (p : Nat) : Prop := ∀ P : Nat → Prop, P (sFirst g) → (∀ p m, P p → sWork g p < 2 → sShM g F p m → P (sBeh g p m)) → P p
theorem sSh_first (g : zg) (F : zfo) : sSh g F (sFirst g) := fun _ h _ => h
theorem sSh_step {g : zg} {F : zfo} {p m : Nat} (h : sSh g F p) (hw : sWork g p < 2) (hc : sShM g F p m) : sSh g F (sBeh g p m) := fun P h0 hs => hs p m (h P h0 hs) hw hc
theorem sSh_R {g : zg} {F : zfo} {p : Nat} (h : sSh g F p) : sR g p := h (sR g) (sR_first g) fun _ _ hp hw hc => sR_step hp hw hc.1
section
variable {G : zG} {n : Nat} {I : zI} {L : zL} {q : zq} {post : zPo} {g : zg} {c : sC} {w : uW} {fr : Nat → Nat} {f nr nf : Nat} {F : zfo}
theorem c_boxIsFirst {p : Nat} {sn : Nat → Bool} (hg : mG g I) (hp : p < 19683) (hs : ∀ x, x < 19683 → I 20 x = zbo (sn x)) (h : post (some (.int (zbo (sFs g sn p (sTurns g))))) I L (zR1 q)) : zC G (n + 3) 70 [.ref 0, .int (nI p)] I L (zR1 q) post := by
  have htu := sTurns_le g
  have key : ∀ j t : Nat, 1 ≤ t → t + j = sTurns g → sFs g sn p t = true → zQ G 70 (n + 2) post 2 [some (.ref 0), some (.int (nI p)), some (.int (nI t)), none] [] I L (zR1 q) := by
    intro j
    induction j with
    | zero =>
      intro t h1 ht hf
      refine b70_2 (c_turns hg (pk_le (sTurns g) t (fun _ => b70_39 (And.intro rfl ?_)) (fun z => absurd z (by omega)) rfl rfl (by omega) (by omega)))
      rw [show sTurns g = t by omega, hf] at h
      exact h
    | succ j ih =>
      intro t h1 ht hf
      have h4 : 4 ≤ t → g 1 = g 2 := fun z => sTurns_sq (show t < sTurns g by omega) z
      have hl1 := sTP_le hg.1 hp h4
      have es : sFs g sn p (t + 1) = (sFs g sn p t && !(decide (sTP g p t < p) && sn (sTP g p t))) := by rw [sFs, if_neg (by omega)]
      rw [hf, Bool.true_and] at es
      have next : sFs g sn p (t + 1) = true → zQ G 70 (n + 2) post 33 [some (.ref 0), some (.int (nI p)), some (.int (nI t)), some (.int (nI (sTP g p t)))] [] I L (zR1 q) := by
        intro z
        have qq := ih (t + 1) (by omega) (by omega) z
        rw [← nI_1] at qq
        exact b70_33 (zP_lv (by exact ⟨rfl, rfl, rfl, trivial⟩) qq)
      refine b70_2 (c_turns hg (pk_le (sTurns g) t (fun z => absurd z (by omega)) (fun _ => ?_) rfl rfl (by omega) (by omega)))
      refine c_turnedPosition hg (by omega) (by omega) h4 ?_
      refine pk_le p (sTP g p t) (fun z => next ?_) (fun z => And.intro (vp_in_nI (by omega) (by decide)) ?_) rfl rfl (by omega) (by omega)
      · rw [es, decide_eq_false (by omega)]
        rfl
      · have e20 : I 20 (nI (sTP g p t)).toNatClampNeg = zbo (sn (sTP g p t)) := by rw [nI_clamp (by omega)]; exact hs _ (by omega)
        show (I 20 (nI (sTP g p t)).toNatClampNeg = 0 → _) ∧ (¬ I 20 (nI (sTP g p t)).toNatClampNeg = 0 → _)
        rw [e20]
        refine zbo_eq (fun z2 => next ?_) (fun z2 => And.intro rfl ?_)
        · rw [es, z2, Bool.and_false]
          rfl
        · have e := sFs_no (g := g) (sn := sn) (p := p) (t := t + 1) (by rw [es, z2, decide_eq_true z]; rfl) j
          rw [show t + 1 + j = sTurns g by omega] at e
          rw [e] at h
          exact h
  exact zin0 rfl rfl rfl (b70_0 (key (sTurns g - 1) 1 (by omega) (by omega) (by rw [sFs, if_pos rfl])))
theorem c_countBoxes {sn : Nat → Bool} (hg : mG g I) (hm : mPos g I) (hs : ∀ x, x < 19683 → I 20 x = zbo (sn x)) (hsR : ∀ x, sn x = true → sR g x) (h : post (some (.int (nI (sBxc g sn)))) I L (zR1 q)) : zC G (n + 4) 69 [.ref 0] I L (zR1 q) post := by
  have h8 := hg.1.2.2.2.2.2.2.2.2
  have key : ∀ j i : Nat, i + j = 19683 → zQ G 69 (n + 3) post 4 [some (.ref 0), some (.int (nI (sCB (sBxf g sn) i))), some (.int (nI i))] [] I L (zR1 q) := by
    intro j
    induction j with
    | zero =>
      intro i hi
      have e : i = 19683 := by omega
      subst e
      exact b69_4 (pk_le 19683 19683 (fun _ => b69_50 h) (fun z => absurd z (by omega)) rfl rfl (by omega) (by omega))
    | succ j ih =>
      intro i hi
      have ec : (nI i).toNatClampNeg = i := nI_clamp (by omega)
      have inb : vp_in (nI i) 19683 := vp_in_nI (by omega) (by decide)
      have e20 : I 20 (nI i).toNatClampNeg = zbo (sn i) := by rw [ec]; exact hs i (by omega)
      have qq := ih (i + 1) (by omega)
      rw [← nI_1, sCB] at qq
      have skip : sBxf g sn i = false → zQ G 69 (n + 3) post 44 [some (.ref 0), some (.int (nI (sCB (sBxf g sn) i))), some (.int (nI i))] [] I L (zR1 q) := by
        intro z
        rw [if_neg (by rw [z]; exact Bool.false_ne_true), Nat.add_zero] at qq
        exact b69_44 qq
      refine b69_4 (pk_le 19683 i (fun z => absurd z (by omega)) (fun _ => And.intro inb ?_) rfl rfl (by omega) (by omega))
      show (I 20 (nI i).toNatClampNeg = 0 → _) ∧ (¬ I 20 (nI i).toNatClampNeg = 0 → _)
      rw [e20]
      refine zbo_eq (fun z => skip (by unfold sBxf; rw [z]; rfl)) (fun z => And.intro inb ?_)
      have es : I 2 (nI i).toNatClampNeg = nI (sWork g i) := by rw [ec]; exact (mPos_R hg.1 hm (hsR i z)).2.1
      have hwk := sWork_le g i
      refine pk_ne (sWork g i) (g 8) (fun z2 => skip (by unfold sBxf; rw [decide_eq_false z2, Bool.false_and, Bool.and_false])) (fun z2 => ?_) es (mG0 hg 8 (by decide)) (by omega) (by omega)
      refine c_boxIsFirst hg (by omega) hs (zbo_eq (fun z3 => skip (by unfold sBxf; rw [z3, Bool.and_false, Bool.and_false])) (fun z3 => b69_44 ?_))
      rw [if_pos (by unfold sBxf; rw [z, decide_eq_true z2, z3]; rfl), ← nI_1 (sCB (sBxf g sn) i)] at qq
      exact qq
  exact zin0 rfl rfl rfl (b69_0 (key 19683 0 (by omega)))
/-- the positions that come, told as booleans -/
noncomputable def sRb (g : zg) (p : Nat) : Bool := @decide (sR g p) (Classical.propDecidable _)
noncomputable def sShb (g : zg) (F : zfo) (p : Nat) : Bool := @decide (sSh g F p) (Classical.propDecidable _)
theorem sRb_t {p : Nat} (h : sR g p) : sRb g p = true := @decide_eq_true _ (Classical.propDecidable _) h
theorem sRb_f {p : Nat} (h : ¬ sR g p) : sRb g p = false := @decide_eq_false _ (Classical.propDecidable _) h
theorem sRb_R {p : Nat} (h : sRb g p = true) : sR g p := @of_decide_eq_true _ (Classical.propDecidable _) h
theorem sShb_t {p : Nat} (h : sSh g F p) : sShb g F p = true := @decide_eq_true _ (Classical.propDecidable _) h
theorem sShb_f {p : Nat} (h : ¬ sSh g F p) : sShb g F p = false := @decide_eq_false _ (Classical.propDecidable _) h
theorem sShb_R {p : Nat} (h : sShb g F p = true) : sSh g F p := @of_decide_eq_true _ (Classical.propDecidable _) h
def tSn (o k : Nat) : Bool := Nat.beq o 20 || (Nat.beq o 0 && Nat.beq k 34)
theorem c_boxes (hg : mG g I) (hm : mPos g I) (h : ∀ I' : zI, I' 0 34 = 0 → zFr tSn I I' → post (some (.int (nI (sBxc g (sRb g))))) I' L (zR1 q)) : zC G (n + 5) 71 [.ref 0] I L (zR1 q) post := by
  have hm' := mPos_34 (v := 0) hm
  have key : ∀ j i : Nat, i + j = 19683 → ∀ J : zI, (∀ x, x < i → J 20 x = zbo (sRb g x)) → (∀ o, o ≠ 20 → J o = zup I 0 34 0 o) → zQ G 71 (n + 4) post 7 [some (.ref 0), some (.int (nI i))] [] J L (zR1 q) := by
    intro j
    induction j with
    | zero =>
      intro i hi J hJ ho
      refine b71_7 (pk_le 19683 i (fun _ => b71_32 ?_) (fun z => absurd z (by omega)) rfl rfl (by omega) (by omega))
      refine c_countBoxes (mG_of (mG_34 hg) (ho 0 (by decide))) (mPos_of hm' (ho 1 (by decide)) (ho 2 (by decide)) (ho 3 (by decide))) (fun x hx => hJ x (by omega)) (fun x => sRb_R) ?_
      exact h J (by rw [ho 0 (by decide)]; rfl) (zFr_tr (zFr_up (zFr_0 _ _) rfl) fun o k z => by rw [ho o (fun a => by subst a; cases z)])
    | succ j ih =>
      intro i hi J hJ ho
      have ec : (nI i).toNatClampNeg = i := nI_clamp (by omega)
      have v : vp_in (nI i) 19683 := vp_in_nI (by omega) (by decide)
      refine b71_7 (pk_le 19683 i (fun z => absurd z (by omega)) (fun _ => And.intro v (And.intro v ?_)) rfl rfl (by omega) (by omega))
      have q2 := ih (i + 1) (by omega) (zup J 20 (nI i).toNatClampNeg (vp_nar .boolean (J 1 (nI i).toNatClampNeg))) (fun x hx => ?_) (fun o hh => by rw [zup_ne hh]; exact ho o hh)
      · rw [← nI_1] at q2
        exact q2
      · rw [ec, zup_eq]
        by_cases d : x = i
        · rw [if_pos d, ho 1 (by decide), d]
          rcases hm' i (by omega) with ⟨z, hr, -⟩ | ⟨z, hr⟩
          · rw [z, sRb_t hr]
            decide
          · rw [z, sRb_f hr]
            decide
        · rw [if_neg d]
          exact hJ x (by omega)
  exact zin0 rfl rfl rfl (b71_0 (key 19683 0 (by omega) (zup I 0 34 0) (fun _ hx => absurd hx (by omega)) (fun _ _ => rfl)))
/-- what going through a foe's positions stands on -/
def shW (g : zg) (f : Nat) (F : zfo) (I : zI) (L : zL) : Prop := mG g I ∧ mPos g I ∧ mFo1 f F I L
theorem shW_of {I' : zI} (h : shW g f F I L) (ho : ∀ o, o ≠ 20 → I' o = I o) : shW g f F I' L := by
  refine ⟨mG_of h.1 (ho 0 (by decide)), mPos_of h.2.1 (ho 1 (by decide)) (ho 2 (by decide)) (ho 3 (by decide)), ?_⟩
  unfold mFo1
  rw [ho 10 (by decide), ho 11 (by decide), ho 12 (by decide), ho 14 (by decide)]
  exact h.2.2
def shMk (g : zg) (F : zfo) (I : zI) : Prop := ∀ p, p < 19683 → I 20 p = 0 ∨ (I 20 p = 1 ∧ sSh g F p)
def shFin (g : zg) (F : zfo) (I : zI) (p : Nat) : Prop := sWork g p < 2 → ∀ m, sShM g F p m → I 20 (sBeh g p m) = 1
/-- while p is gone through -/
def shS (g : zg) (F : zfo) (d p : Nat) (I0 I' : zI) : Prop := shMk g F I' ∧ (∀ x, x < 19683 → x ≠ p → I' 20 x = 1 → sDep g x ≤ d → shFin g F I' x) ∧ I' 20 p = 1 ∧ (∀ x, I0 20 x = 1 → I' 20 x = 1) ∧ (∀ x, d < sDep g x → I' 20 x = I0 20 x) ∧ ∀ o, o ≠ 20 → I' o = I0 o
def ShP (G : zG) (g : zg) (f : Nat) (F : zfo) (L : zL) (q : zq) (d : Nat) : Prop := ∀ (p N : Nat) (I : zI) (post : zPo), sDep g p = d → d + 9 ≤ N → shW g f F I L → sSh g F p → shMk g F I → (∀ x, x < 19683 → I 20 x = 1 → sDep g x ≤ d → shFin g F I x) → (∀ I' : zI, shMk g F I' → (∀ x, x < 19683 → I' 20 x = 1 → sDep g x ≤ d → shFin g F I' x) → I' 20 p = 1 → (∀ x, I 20 x = 1 → I' 20 x = 1) → (∀ x, d < sDep g x → I' 20 x = I 20 x) → (∀ o, o ≠ 20 → I' o = I o) → post none I' L (zR1 q)) → zC G N 72 [.ref 0, .int (nI p), .int (nI f)] I L (zR1 q) post
theorem shFin_of {I' : zI} {p : Nat} (h : shFin g F I p) (h1 : ∀ x, I 20 x = 1 → I' 20 x = 1) : shFin g F I' p := fun hw m hm => h1 _ (h hw m hm)
theorem sh_child {d p m N : Nat} {I0 I' : zI} (ih : ∀ d', d' < d → ShP G g f F L q d') (hd : sDep g p = d) (hN : d + 8 ≤ N) (hs : sSh g F p) (hw : sWork g p < 2) (hm : sShM g F p m) (hW : shW g f F I' L) (hS : shS g F d p I0 I') (h : ∀ I'' : zI, shW g f F I'' L → shS g F d p I0 I'' → I'' 20 (sBeh g p m) = 1 → (∀ x, I' 20 x = 1 → I'' 20 x = 1) → post none I'' L (zR1 q)) : zC G N 72 [.ref 0, .int (nI (sBeh g p m)), .int (nI f)] I' L (zR1 q) post := by
  have hgo := hW.1.1
  have hdl := sDep_lt hgo hm.1
  obtain ⟨s1, s2, s3, s4, s5, s6⟩ := hS
  refine ih (sDep g (sBeh g p m)) (by omega) (sBeh g p m) N I' post rfl (by omega) hW (sSh_step hs hw hm) s1 (fun x hx h1 hdx => s2 x hx (fun z => by subst z; omega) h1 (by omega)) fun I'' m1 m2 m3 m4 m5 m6 => ?_
  refine h I'' (shW_of hW m6) ⟨m1, fun x hx hxp h1 hdx => ?_, m4 p s3, fun x hx => m4 x (s4 x hx), fun x hx => (m5 x (by omega)).trans (s5 x hx), fun o ho => (m6 o ho).trans (s6 o ho)⟩ m3 m4
  by_cases c3 : sDep g x ≤ sDep g (sBeh g p m)
  · exact m2 x hx h1 c3
  · rw [m5 x (by omega)] at h1
    exact shFin_of (s2 x hx hxp h1 hdx) m4
theorem sh_all (hgo : gOk g) (hf : f < 8) (hok : foOk F) (d : Nat) : ShP G g f F L q d := by
  induction d using Nat.strongRecOn with
  | _ d ih =>
    intro p N I post hd hN hW hsh hmk hfin h
    obtain ⟨hg, hm, hF⟩ := id hW
    have hr := sSh_R hsh
    have hp := sR_ok hg.1 hr
    have hp1 := hp.1
    have hmm := sMM_pos hg.1
    have h8 := hg.1.2.2.2.2.2.2.2.2
    have hwk4 := sWork_le g p
    have ec : (nI p).toNatClampNeg = p := nI_clamp (by omega)
    have inb : vp_in (nI p) 19683 := vp_in_nI hp1 (by decide)
    obtain ⟨N, rfl⟩ : ∃ n, N = n + 9 := ⟨N - 9, by omega⟩
    refine zin0 rfl rfl rfl (b72_0 (And.intro inb ?_))
    show (I 20 (nI p).toNatClampNeg = 0 → _) ∧ (¬ I 20 (nI p).toNatClampNeg = 0 → _)
    rw [ec]
    refine And.intro (fun z => b72_10 (And.intro inb (And.intro inb ?_))) (fun z => ?_)
    · rw [ec, show vp_nar .boolean 1 = 1 by decide]
      obtain ⟨I2, hI2⟩ : ∃ I2 : zI, I2 = zup I 20 p 1 := ⟨_, rfl⟩
      rw [← hI2]
      have a1 : ∀ x, I2 20 x = if x = p then 1 else I 20 x := fun x => by rw [hI2, zup_eq]
      have a3 : ∀ o, o ≠ 20 → I2 o = I o := fun o h1 => by rw [hI2, zup_ne h1]
      have mono2 : ∀ x, I 20 x = 1 → I2 20 x = 1 := fun x hx => by rw [a1]; split <;> first | rfl | exact hx
      have hW2 := shW_of hW a3
      have S2 : shS g F d p I I2 := by
        refine ⟨fun x hx => ?_, fun x hx hxp h1 hdx => ?_, by rw [a1, if_pos rfl], mono2, fun x hx => ?_, a3⟩
        · rw [a1]
          by_cases c : x = p
          · subst c
            rw [if_pos rfl]
            exact Or.inr ⟨rfl, hsh⟩
          · rw [if_neg c]
            exact hmk x hx
        · rw [a1, if_neg hxp] at h1
          exact shFin_of (hfin x hx h1 hdx) mono2
        · rw [a1, if_neg (fun z2 => by subst z2; omega)]
      -- at the end
      have done : ∀ I' : zI, shS g F d p I I' → shFin g F I' p → post none I' L (zR1 q) := by
        intro I' ⟨s1, s2, s3, s4, s5, s6⟩ hfp
        refine h I' s1 (fun x hx h1 hdx => ?_) s3 s4 s5 s6
        by_cases c : x = p
        · subst c; exact hfp
        · exact s2 x hx c h1 hdx
      have es : I2 2 p = nI (sWork g p) := by rw [a3 2 (by decide)]; exact (mPos_R hg.1 hm hr).2.1
      have e8 : I2 0 8 = nI (g 8) := mG0 hW2.1 8 (by decide)
      refine pk_lt (sWork g p) 2 (fun w => b72_28 (And.intro inb ?_)) (fun w => done I2 S2 fun hw => absurd hw (by omega)) es rfl (by omega) (by omega)
      rw [ec]
      refine pk_ne (sWork g p) (g 8) (fun z2 => b72_78 ?_) (fun z2 => ?_) es e8 (by omega) (by omega)
      · -- the parts
        have parts : ∀ j i : Nat, i + j = F.1 → ∀ I' : zI, shW g f F I' L → shS g F d p I I' → (∀ k, k < i → ∀ m, sCan g p m = true → (F.2.1 k = 102 ∨ m = sFMv g F k p) → I' 20 (sBeh g p m) = 1) → zQ G 72 (N + 8) post 80 [some (.ref 0), some (.int (nI p)), some (.int (nI f)), some (.int (nI i)), none] [] I' L (zR1 q) := by
          intro j
          have hk14 := hok.1
          have ecf : (nI f).toNatClampNeg = f := nI_clamp (by omega)
          have inf : vp_in (nI f) 8 := vp_in_nI hf (by decide)
          induction j with
          | zero =>
            intro i hi I' hW' hS' hall
            have e10 : I' 10 (nI f).toNatClampNeg = nI F.1 := by rw [ecf]; exact hW'.2.2.1
            refine b72_80 (And.intro inf (pk_le F.1 i (fun _ => b72_176 (done I' hS' fun hw m hm2 => ?_)) (fun z3 => absurd z3 (by omega)) e10 rfl (by omega) (by omega)))
            rcases hm2.2 with a | ⟨k, hk, a⟩
            · exact absurd a z2
            · exact hall k (by omega) m hm2.1 a
          | succ j ihj =>
            intro i hi I' hW' hS' hall
            have hi1 : i < F.1 := by omega
            have e10 : I' 10 (nI f).toNatClampNeg = nI F.1 := by rw [ecf]; exact hW'.2.2.1
            have e14 : (14 : Int32) * nI f + nI i = nI (14 * f + i) := by rw [show (14 : Int32) = nI 14 from rfl, pk_mul, nI_add]
            have in14 : vp_in ((14 : Int32) * nI f + nI i) 112 := by rw [e14]; exact vp_in_nI (by omega) (by decide)
            have ek : I' 11 ((14 : Int32) * nI f + nI i).toNatClampNeg = nI (F.2.1 i) := by rw [e14, nI_clamp (by omega)]; exact (hW'.2.2.2 i hi1).1
            obtain ⟨o1, -⟩ := hok.2 i hi1
            have next : ∀ I3 : zI, shW g f F I3 L → shS g F d p I I3 → (∀ x, I' 20 x = 1 → I3 20 x = 1) → (∀ m, sCan g p m = true → (F.2.1 i = 102 ∨ m = sFMv g F i p) → I3 20 (sBeh g p m) = 1) → zQ G 72 (N + 8) post 170 [some (.ref 0), some (.int (nI p)), some (.int (nI f)), some (.int (nI i)), none] [] I3 L (zR1 q) := by
              intro I3 hW3 hS3 hmo hal
              have qq := ihj (i + 1) (by omega) I3 hW3 hS3 (fun k hk m hcm hk2 => by
                by_cases c : k = i
                · subst c; exact hal m hcm hk2
                · exact hmo _ (hall k (by omega) m hcm hk2))
              rw [← nI_1] at qq
              exact b72_170 qq
            refine b72_80 (And.intro inf (pk_le F.1 i (fun z3 => absurd z3 (by omega)) (fun _ => And.intro in14 ?_) e10 rfl (by omega) (by omega)))
            refine pk_eq (F.2.1 i) 102 (fun z3 => b72_130 ?_) (fun z3 => ?_) ek rfl (by omega) (by omega)
            · have moves : ∀ j m : Nat, m + j = sMM g → ∀ I3 : zI, shW g f F I3 L → shS g F d p I I3 → (∀ x, I' 20 x = 1 → I3 20 x = 1) → (∀ x, x < m → sCan g p x = true → I3 20 (sBeh g p x) = 1) → zQ G 72 (N + 8) post 133 [some (.ref 0), some (.int (nI p)), some (.int (nI f)), some (.int (nI i)), some (.int (nI m))] [] I3 L (zR1 q) := by
                intro j
                induction j with
                | zero =>
                  intro m hm2 I3 hW3 hS3 hmo hal
                  refine b72_133 (c_moveMany hW3.1 (pk_le (sMM g) m (fun _ => zP_lv (by exact ⟨rfl, rfl, rfl, rfl, trivial⟩) (next I3 hW3 hS3 hmo fun x hcx _ => hal x (by have := sCan_lt hcx; omega) hcx)) (fun z4 => absurd z4 (by omega)) rfl rfl (by omega) (by omega)))
                | succ j ihm =>
                  intro m hm2 I3 hW3 hS3 hmo hal
                  refine b72_133 (c_moveMany hW3.1 (pk_le (sMM g) m (fun z4 => absurd z4 (by omega)) (fun _ => c_can hW3.1 hp (by omega) (zbo_eq (fun z4 => b72_164 ?_) (fun z4 => ?_))) rfl rfl (by omega) (by omega)))
                  · have qq := ihm (m + 1) (by omega) I3 hW3 hS3 hmo (fun x hx hcx => by
                      by_cases c : x = m
                      · subst c; rw [z4] at hcx; cases hcx
                      · exact hal x (by omega) hcx)
                    rw [← nI_1] at qq
                    exact qq
                  · refine c_behind hW3.1 hp z4 (sh_child ih hd (by omega) hsh w ⟨z4, Or.inr ⟨i, hi1, Or.inl z3⟩⟩ hW3 hS3 fun I4 hW4 hS4 h41 hmo4 => b72_164 ?_)
                    have qq := ihm (m + 1) (by omega) I4 hW4 hS4 (fun x hx => hmo4 x (hmo x hx)) (fun x hx hcx => by
                      by_cases c : x = m
                      · subst c; exact h41
                      · exact hmo4 _ (hal x (by omega) hcx))
                    rw [← nI_1] at qq
                    exact qq
              exact moves (sMM g) 0 (by omega) I' hW' hS' (fun _ hx => hx) (fun _ hx => absurd hx (by omega))
            · have hcan := sFMv_can hg.1 (F := F) (k := i) w
              show zC G (N + 8) 75 [.ref 0, .int (nI p), .int ((14 : Int32) * nI f + nI i)] I' L (zR1 q) _
              rw [e14]
              refine c_foeMove hW'.1 hW'.2.1 hr w hf hok hW'.2.2 hi1 (c_behind hW'.1 hp hcan (sh_child ih hd (by omega) hsh w ⟨hcan, Or.inr ⟨i, hi1, Or.inr rfl⟩⟩ hW' hS' fun I4 hW4 hS4 h41 hmo4 => ?_))
              refine next I4 hW4 hS4 hmo4 fun m hcm hk2 => ?_
              rcases hk2 with a | a
              · exact absurd a z3
              · rw [a]; exact h41
        exact parts F.1 0 (by omega) I2 hW2 S2 (fun _ hk => absurd hk (by omega))
      · have moves : ∀ j m : Nat, m + j = sMM g → ∀ I3 : zI, shW g f F I3 L → shS g F d p I I3 → (∀ x, x < m → sCan g p x = true → I3 20 (sBeh g p x) = 1) → zQ G 72 (N + 8) post 43 [some (.ref 0), some (.int (nI p)), some (.int (nI f)), some (.int (nI m)), none] [] I3 L (zR1 q) := by
          intro j
          induction j with
          | zero =>
            intro m hm2 I3 hW3 hS3 hal
            refine b72_43 (c_moveMany hW3.1 (pk_le (sMM g) m (fun _ => b72_77 (done I3 hS3 fun _ x hx => hal x (by have := sCan_lt hx.1; omega) hx.1)) (fun z4 => absurd z4 (by omega)) rfl rfl (by omega) (by omega)))
          | succ j ihm =>
            intro m hm2 I3 hW3 hS3 hal
            refine b72_43 (c_moveMany hW3.1 (pk_le (sMM g) m (fun z4 => absurd z4 (by omega)) (fun _ => c_can hW3.1 hp (by omega) (zbo_eq (fun z4 => b72_71 ?_) (fun z4 => ?_))) rfl rfl (by omega) (by omega)))
            · have qq := ihm (m + 1) (by omega) I3 hW3 hS3 (fun x hx hcx => by
                by_cases c : x = m
                · subst c; rw [z4] at hcx; cases hcx
                · exact hal x (by omega) hcx)
              rw [← nI_1] at qq
              exact qq
            · refine c_behind hW3.1 hp z4 (sh_child ih hd (by omega) hsh w ⟨z4, Or.inl z2⟩ hW3 hS3 fun I4 hW4 hS4 h41 hmo4 => b72_71 ?_)
              have qq := ihm (m + 1) (by omega) I4 hW4 hS4 (fun x hx hcx => by
                by_cases c : x = m
                · subst c; exact h41
                · exact hmo4 _ (hal x (by omega) hcx))
              rw [← nI_1] at qq
              exact qq
        exact moves (sMM g) 0 (by omega) I2 hW2 S2 (fun _ hx => absurd hx (by omega))
    · have z1 : I 20 p = 1 := by
        rcases hmk p hp1 with w | w
        · exact absurd w z
        · exact w.1
      exact h I hmk hfin z1 (fun _ hx => hx) (fun _ _ => rfl) (fun _ _ => rfl)
theorem c_shows0 {x : Int32} (h8 : nf ≤ 8) (h23 : I 0 23 = nI nf) (hx : xOut x nf) (h : post (some (.int (-1))) (zup I 0 34 0) L (zR1 q)) : zC G (n + 3) 74 [.ref 0, .int x] I L (zR1 q) post := zin0 rfl rfl rfl (b74_0 (c_isFoe0 h8 h23 hx (And.intro (fun z => absurd rfl z) (fun _ => h))))
theorem c_shows (hW : shW g f F I L) (hf : f < nf) (h8 : nf ≤ 8) (h23 : I 0 23 = nI nf) (hok : foOk F) (h : ∀ I' : zI, I' 0 34 = 0 → zFr tSn I I' → post (some (.int (nI (sBxc g (sShb g F))))) I' L (zR1 q)) : zC G (n + 30) 74 [.ref 0, .int (nI f)] I L (zR1 q) post := by
  have hgo := hW.1.1
  have hdf := sDep_first g hgo
  have hfl := sR_lt hgo (sR_first g)
  have hW0 : shW g f F (zup I 0 34 0) L := ⟨mG_34 hW.1, mPos_34 hW.2.1, by
    unfold mFo1
    rw [zup_ne (by decide), zup_ne (by decide), zup_ne (by decide), zup_ne (by decide)]
    exact hW.2.2⟩
  refine zin0 rfl rfl rfl (b74_0 (c_isFoe1 hf h8 h23 (And.intro (fun _ => b74_15 ?_) (fun z => absurd z (by decide)))))
  have key : ∀ j i : Nat, i + j = 19683 → ∀ J : zI, (∀ x, x < i → J 20 x = 0) → (∀ o, o ≠ 20 → J o = zup I 0 34 0 o) → zQ G 74 (n + 29) post 17 [some (.ref 0), some (.int (nI f)), some (.int (nI i))] [] J L (zR1 q) := by
    intro j
    induction j with
    | zero =>
      intro i hi J hJ ho
      have hWJ := shW_of hW0 ho
      refine b74_17 (pk_le 19683 i (fun _ => b74_37 (c_first hWJ.1 ?_)) (fun z => absurd z (by omega)) rfl rfl (by omega) (by omega))
      refine sh_all hgo (by omega) hok (sDep g (sFirst g)) (sFirst g) (n + 29) J _ rfl (by omega) hWJ (sSh_first g F) (fun p hp => Or.inl (hJ p (by omega))) (fun x hx h1 => by rw [hJ x (by omega)] at h1; exact absurd h1 (by decide)) fun I' m1 m2 m3 m4 m5 m6 => ?_
      have hW' := shW_of hWJ m6
      have hfr : zFr tSn I I' := zFr_tr (zFr_up (zFr_0 _ _) rfl) fun o k z => by rw [m6 o (fun a => by subst a; cases z), ho o (fun a => by subst a; cases z)]
      have all : ∀ p, sSh g F p → I' 20 p = 1 := fun p hs => by
        refine (hs (fun x => sSh g F x ∧ I' 20 x = 1) ⟨sSh_first g F, m3⟩ fun x m hx hw hc => ⟨sSh_step hx.1 hw hc, ?_⟩).2
        by_cases c : sDep g x ≤ sDep g (sFirst g)
        · exact m2 x (sR_lt hgo (sSh_R hx.1)) hx.2 c hw m hc
        · have a := m5 x (by omega)
          rw [hx.2, hJ x (by have := sR_lt hgo (sSh_R hx.1); omega)] at a
          exact absurd a (by decide)
      refine c_countBoxes hW'.1 hW'.2.1 (sn := sShb g F) (fun x hx => ?_) (fun x hx => sSh_R (sShb_R hx)) (h I' (by rw [m6 0 (by decide), ho 0 (by decide)]; rfl) hfr)
      rcases m1 x hx with a | a
      · have hn : ¬ sSh g F x := fun w => by rw [all x w] at a; exact absurd a (by decide)
        rw [a, sShb_f hn]
        rfl
      · rw [a.1, sShb_t a.2]
        rfl
    | succ j ih =>
      intro i hi J hJ ho
      have ec : (nI i).toNatClampNeg = i := nI_clamp (by omega)
      refine b74_17 (pk_le 19683 i (fun z => absurd z (by omega)) (fun _ => And.intro (vp_in_nI (by omega) (by decide)) ?_) rfl rfl (by omega) (by omega))
      have q2 := ih (i + 1) (by omega) (zup J 20 (nI i).toNatClampNeg (vp_nar .boolean 0)) (fun x hx => ?_) (fun o hh => by rw [zup_ne hh]; exact ho o hh)
      · rw [← nI_1] at q2
        exact q2
      · rw [ec, zup_eq, show vp_nar .boolean 0 = 0 by decide]
        by_cases d : x = i
        · rw [if_pos d]
        · rw [if_neg d]
          exact hJ x (by omega)
  exact key 19683 0 (by omega) (zup I 0 34 0) (fun _ hx => absurd hx (by omega)) (fun _ _ => rfl)
end
