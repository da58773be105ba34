-- ===== the reference: going through the game =====
theorem znb : ∀ v, v < 8 → vp_nar .byte (nI v).toInt8.toInt32 = nI v := by decide +kernel
section
variable {G : zG} {n : Nat} {I : zI} {L : zL} {q : zq} {post : zPo} {g : zg}
theorem c_worth {p m : Nat} {v : Nat → Nat} (hg : mG g I) (hp : pOk g p) (hc : sCan g p m = true) (hq : sBeh g p m < 19683) (h2 : I 2 (sBeh g p m) = nI (sWork g (sBeh g p m))) (h3 : sWork g (sBeh g p m) < 2 → I 3 (sBeh g p m) = nI (v (sBeh g p m)) ∧ v (sBeh g p m) ≤ 2) (h : post (some (.int (nI (sWth g v p m)))) I L (zR1 q)) : zC G (n + 5) 16 [.ref 0, .int (nI p), .int (nI m)] I L (zR1 q) post := by
  have hw := sWork_le g (sBeh g p m)
  have hm := sMov_le g p
  have ec : (nI (sBeh g p m)).toNatClampNeg = sBeh g p m := nI_clamp (by omega)
  have e2 : I 2 (nI (sBeh g p m)).toNatClampNeg = nI (sWork g (sBeh g p m)) := by rw [ec, h2]
  have inb : vp_in (nI (sBeh g p m)) 19683 := vp_in_nI hq (by decide)
  refine zin0 rfl rfl rfl (b16_0 (c_behind hg hp hc (And.intro inb ?_)))
  refine pk_le 2 (sWork g (sBeh g p m)) (fun z => b16_26 (And.intro inb ?_)) (fun z => And.intro inb ?_) rfl e2 (by omega) (by omega)
  · refine (fun z : _ ∧ _ => And.intro z.2 z.1) (pk_eq (sWork g (sBeh g p m)) 4 (fun z2 => b16_61 ?_) (fun z2 => b16_40 (And.intro inb (c_mover hg hp ?_))) e2 rfl (by omega) (by omega))
    · rw [show sWth g v p m = 1 by unfold sWth; rw [if_neg (by omega), if_pos z2]] at h
      exact h
    · refine (fun z : _ ∧ _ => And.intro z.2 z.1) (pk_eq (sWork g (sBeh g p m) - 2) (sMov g p) (fun z3 => b16_61 ?_) (fun z3 => b16_60 (b16_61 ?_)) (by rw [e2]; exact pk_sub (b := 2) z) rfl (by omega) (by omega))
      · rw [show sWth g v p m = 2 by unfold sWth; rw [if_neg (by omega), if_neg z2, if_pos z3]] at h
        exact h
      · rw [show sWth g v p m = 0 by unfold sWth; rw [if_neg (by omega), if_neg z2, if_neg z3]] at h
        exact h
  · obtain ⟨h4, h5⟩ := h3 z
    have e3 : (2 : Int32) - I 3 (nI (sBeh g p m)).toNatClampNeg = nI (sWth g v p m) := by
      rw [ec, h4, show sWth g v p m = 2 - v (sBeh g p m) by unfold sWth; rw [if_pos z]]
      exact pk_sub (a := 2) h5
    rw [← e3] at h
    exact h
/-- the marked are come to, and their states are right -/
def gMk (g : zg) (I : zI) : Prop := ∀ p, p < 19683 → I 1 p = 0 ∨ (I 1 p = 1 ∧ sR g p ∧ I 2 p = nI (sWork g p))
/-- a position is done -/
def gFin (g : zg) (I : zI) (p : Nat) : Prop := sWork g p < 2 → I 3 p = nI (sVal g p) ∧ ∀ m, sCan g p m = true → I 1 (sBeh g p m) = 1
theorem sR_lt {p : Nat} (hg : gOk g) (h : sR g p) : p < 19683 := (sIn_ok hg (sR_in hg h)).1
theorem sR_ok {p : Nat} (hg : gOk g) (h : sR g p) : pOk g p := sIn_ok hg (sR_in hg h)
theorem mG_of {I' : zI} (hg : mG g I) (h : I' 0 = I 0) : mG g I' := ⟨hg.1, fun k hk => by rw [h]; exact hg.2 k hk⟩
theorem gFin_of {I' : zI} {p : Nat} (h : gFin g I p) (h3 : I' 3 p = I 3 p) (h1 : ∀ x, I 1 x = 1 → I' 1 x = 1) : gFin g I' p := fun hw => ⟨by rw [h3]; exact (h hw).1, fun m hm => h1 _ ((h hw).2 m hm)⟩
theorem c_goThrough (d : Nat) : ∀ (p N : Nat) (I : zI) (post : zPo), sDep g p = d → d + 6 ≤ N → mG g I → sR g p → gMk g I → (∀ x, x < 19683 → I 1 x = 1 → sDep g x ≤ d → gFin g I x) →
    (∀ I' : zI, gMk g I' → (∀ x, x < 19683 → I' 1 x = 1 → sDep g x ≤ d → gFin g I' x) → I' 1 p = 1 → (∀ x, I 1 x = 1 → I' 1 x = 1) → (∀ x, d < sDep g x → I' 1 x = I 1 x ∧ I' 3 x = I 3 x) → (∀ o, o ≠ 1 → o ≠ 2 → o ≠ 3 → I' o = I o) → post none I' L (zR1 q)) → zC G N 15 [.ref 0, .int (nI p)] I L (zR1 q) post := by
  induction d using Nat.strongRecOn with
  | _ d ih =>
    intro p N I post hd hN hg hr hmk hfin h
    have hp := sR_ok hg.1 hr
    have hp1 := hp.1
    have ec : (nI p).toNatClampNeg = p := nI_clamp (by omega)
    have inb : vp_in (nI p) 19683 := vp_in_nI hp1 (by decide)
    obtain ⟨N, rfl⟩ : ∃ n, N = n + 6 := ⟨N - 6, by omega⟩
    refine zin0 rfl rfl rfl (b15_0 (And.intro inb ?_))
    show (I 1 (nI p).toNatClampNeg = 0 → _) ∧ (¬ I 1 (nI p).toNatClampNeg = 0 → _)
    rw [ec]
    refine And.intro (fun z => b15_10 (And.intro inb (c_work ?_ hp (And.intro inb (And.intro inb ?_))))) (fun z => ?_)
    · exact mG_of hg (zup_ne (by decide))
    · have hw4 := sWork_le g p
      -- the marks
      rw [ec]
      have e1 : vp_nar .boolean 1 = 1 := by decide
      rw [e1, znb (sWork g p) (by omega)]
      obtain ⟨I2, hI2⟩ : ∃ I2 : zI, I2 = zup (zup I 1 p 1) 2 p (nI (sWork g p)) := ⟨_, rfl⟩
      rw [← hI2]
      have a1 : ∀ x, I2 1 x = if x = p then 1 else I 1 x := fun x => by rw [hI2, zup_ne (by decide), zup_eq]
      have a2 : ∀ x, I2 2 x = if x = p then nI (sWork g p) else I 2 x := fun x => by rw [hI2, zup_eq, zup_ne (by decide)]
      have a3 : ∀ o, o ≠ 1 → o ≠ 2 → I2 o = I o := fun o h1 h2 => by rw [hI2, zup_ne h2, zup_ne h1]
      have mk2 : gMk g I2 := fun x hx => by
        rw [a1, a2]
        by_cases c : x = p
        · subst c
          rw [if_pos rfl, if_pos rfl]
          exact Or.inr ⟨rfl, hr, rfl⟩
        · rw [if_neg c, if_neg c]
          exact hmk x hx
      have mono2 : ∀ x, I 1 x = 1 → I2 1 x = 1 := fun x hx => by rw [a1]; split <;> first | rfl | exact hx
      have fin2 : ∀ x, x < 19683 → x ≠ p → I2 1 x = 1 → sDep g x ≤ d → gFin g I2 x := fun x hx hxp h1 hdx => by
        rw [a1, if_neg hxp] at h1
        exact gFin_of (hfin x hx h1 hdx) (by rw [a3 3 (by decide) (by decide)]) mono2
      refine pk_lt (sWork g p) 2 (fun w => b15_40 ?_) (fun w => ?_) (by rw [a2, if_pos rfl]) rfl (by omega) (by omega)
      · have key : ∀ j i : Nat, i + j = sMM g → ∀ I' : zI, gMk g I' → (∀ x, x < 19683 → x ≠ p → I' 1 x = 1 → sDep g x ≤ d → gFin g I' x) → I' 1 p = 1 → (∀ x, I 1 x = 1 → I' 1 x = 1) → (∀ x, d < sDep g x → I' 1 x = I 1 x ∧ I' 3 x = I 3 x) → (∀ o, o ≠ 1 → o ≠ 2 → o ≠ 3 → I' o = I o) → (∀ m, m < i → sCan g p m = true → I' 1 (sBeh g p m) = 1) →
            zQ G 15 (N + 5) post 44 [some (.ref 0), some (.int (nI p)), some (.int (nI (sMx (fun m => if sCan g p m = true then sWth g (sVal g) p m else 0) i))), some (.int (nI i))] [] I' L (zR1 q) := by
          have hmm := sMM_pos hg.1
          have hF : ∀ i, sMx (fun m => if sCan g p m = true then sWth g (sVal g) p m else 0) i ≤ 2 := fun i => sMx_le (fun m => by have := sWth_le g (sVal g) p m; split <;> omega) i
          intro j
          induction j with
          | zero =>
            intro i hi I' mk fin one mono far oth all
            have hg' : mG g I' := mG_of hg (oth 0 (by decide) (by decide) (by decide))
            refine b15_44 (c_moveMany hg' (pk_le (sMM g) i (fun _ => b15_91 (And.intro inb ?_)) (fun z => absurd z (by omega)) rfl rfl (by omega) (by omega)))
            have hv : sVal g p = sMx (fun m => if sCan g p m = true then sWth g (sVal g) p m else 0) i := by rw [sVal_eq hg.1, show sMM g = i by omega]
            rw [ec, znb _ (by have := hF i; omega), ← hv]
            have b1 : ∀ o, o ≠ 3 → zup I' 3 p (nI (sVal g p)) o = I' o := fun o ho => zup_ne ho
            refine h _ (fun x hx => by rw [b1 1 (by decide), b1 2 (by decide)]; exact mk x hx) (fun x hx h1 hdx => ?_) (by rw [b1 1 (by decide)]; exact one) (fun x hx => by rw [b1 1 (by decide)]; exact mono x hx) (fun x hx => ?_) (fun o h1 h2 h3 => by rw [b1 o h3]; exact oth o h1 h2 h3)
            · by_cases c : x = p
              · subst c
                intro _
                refine ⟨by rw [zup_self], fun m hm => ?_⟩
                rw [b1 1 (by decide)]
                exact all m (by have := sCan_lt hm; omega) hm
              · rw [b1 1 (by decide)] at h1
                exact gFin_of (fin x hx c h1 hdx) (by rw [zup_k c]) (fun y hy => by rw [b1 1 (by decide)]; exact hy)
            · rw [b1 1 (by decide), zup_k (by intro e; subst e; omega)]
              exact far x hx
          | succ j ihj =>
            intro i hi I' mk fin one mono far oth all
            have hg' : mG g I' := mG_of hg (oth 0 (by decide) (by decide) (by decide))
            refine b15_44 (c_moveMany hg' (pk_le (sMM g) i (fun z => absurd z (by omega)) (fun _ => c_can hg' hp (by omega) (zbo_ne (fun c => b15_64 ?_) (fun c => b15_85 ?_))) rfl rfl (by omega) (by omega)))
            · have hdl := sDep_lt hg.1 c
              have hrc := sR_step hr w c
              have hbl := sR_lt hg.1 hrc
              refine c_behind hg' hp c ?_
              refine ih (sDep g (sBeh g p i)) (by omega) (sBeh g p i) (N + 5) I' _ rfl (by omega) hg' hrc mk (fun x hx h1 hdx => fin x hx (by intro e; subst e; omega) h1 (by omega)) ?_
              intro I'' mk2' fin2' one' mono' far' oth'
              have hg'' : mG g I'' := mG_of hg' (oth' 0 (by decide) (by decide) (by decide))
              refine c_worth (v := sVal g) hg'' hp c hbl ?_ (fun hw => ⟨(fin2' _ hbl one' (Nat.le_refl _) hw).1, sVal_le g _⟩) ?_
              · rcases mk2' _ hbl with z0 | z0
                · rw [one'] at z0
                  exact absurd z0 (by decide)
                · exact z0.2.2
              · have qq := ihj (i + 1) (by omega) I'' mk2' (fun x hx hxp h1 hdx => ?_) (mono' p one) (fun x hx => mono' x (mono x hx)) (fun x hx => ?_) (fun o h1 h2 h3 => by rw [oth' o h1 h2 h3]; exact oth o h1 h2 h3) (fun m hm hcm => ?_)
                · have e : (if nI (sMx (fun m => if sCan g p m = true then sWth g (sVal g) p m else 0) i) < nI (sWth g (sVal g) p i) then nI (sWth g (sVal g) p i) else nI (sMx (fun m => if sCan g p m = true then sWth g (sVal g) p m else 0) i)) = nI (sMx (fun m => if sCan g p m = true then sWth g (sVal g) p m else 0) (i + 1)) := by
                    have es : sMx (fun m => if sCan g p m = true then sWth g (sVal g) p m else 0) (i + 1) = max (sMx (fun m => if sCan g p m = true then sWth g (sVal g) p m else 0) i) (sWth g (sVal g) p i) := by
                      show max _ (if sCan g p i = true then _ else _) = _
                      rw [if_pos c]
                    have l1 := hF i
                    have l2 := sWth_le g (sVal g) p i
                    rw [es]
                    by_cases w3 : sMx (fun m => if sCan g p m = true then sWth g (sVal g) p m else 0) i < sWth g (sVal g) p i
                    · rw [if_pos ((nI_ltI (by omega) (by omega)).mpr w3), Nat.max_eq_right (by omega)]
                    · rw [if_neg (fun w2 => w3 ((nI_ltI (by omega) (by omega)).mp w2)), Nat.max_eq_left (by omega)]
                  rw [← nI_1, ← e] at qq
                  exact b15_85 qq
                · by_cases c3 : sDep g x ≤ sDep g (sBeh g p i)
                  · exact fin2' x hx h1 c3
                  · have f2 := far' x (by omega)
                    rw [f2.1] at h1
                    exact gFin_of (fin x hx hxp h1 hdx) f2.2 mono'
                · have f2 := far' x (by omega)
                  have f1 := far x hx
                  exact ⟨f2.1.trans f1.1, f2.2.trans f1.2⟩
                · by_cases c3 : m = i
                  · rw [c3]; exact one'
                  · exact mono' _ (all m (by omega) hcm)
            · have qq := ihj (i + 1) (by omega) I' mk fin one mono far oth (fun m hm hcm => by
                by_cases c3 : m = i
                · rw [c3] at hcm
                  rw [c] at hcm
                  cases hcm
                · exact all m (by omega) hcm)
              have es : sMx (fun m => if sCan g p m = true then sWth g (sVal g) p m else 0) (i + 1) = sMx (fun m => if sCan g p m = true then sWth g (sVal g) p m else 0) i := by
                show max _ (if sCan g p i = true then _ else _) = _
                rw [if_neg (by rw [c]; exact Bool.false_ne_true)]
                exact Nat.max_eq_left (Nat.zero_le _)
              rw [← nI_1, es] at qq
              exact qq
        refine key (sMM g) 0 (by omega) I2 mk2 fin2 (by rw [a1, if_pos rfl]) mono2 (fun x hx => ?_) (fun o h1 h2 _ => a3 o h1 h2) (fun m hm => absurd hm (by omega))
        rw [a1, if_neg (by intro e; subst e; omega), a3 3 (by decide) (by decide)]
        exact ⟨rfl, rfl⟩
      · refine h I2 mk2 (fun x hx h1 hdx => ?_) (by rw [a1, if_pos rfl]) mono2 (fun x hx => ?_) (fun o h1 h2 _ => a3 o h1 h2)
        · by_cases c : x = p
          · subst c
            exact fun hw => absurd hw (by omega)
          · exact fin2 x hx c h1 hdx
        · rw [a1, if_neg (by intro e; subst e; omega), a3 3 (by decide) (by decide)]
          exact ⟨rfl, rfl⟩
    · have z1 : I 1 p = 1 := by
        rcases hmk p hp1 with w | w
        · exact absurd w z
        · exact w.1
      exact h I hmk hfin z1 (fun _ hx => hx) (fun _ _ => ⟨rfl, rfl⟩) (fun _ _ _ _ => rfl)
end
