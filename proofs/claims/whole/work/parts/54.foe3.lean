-- ===== the reference: a foe told, whole =====
section
variable {G : zG} {n : Nat} {I : zI} {L : zL} {q : zq} {post : zPo} {tx : Nat → Nat} {tn nf : Nat} {fo : Nat → zfo}
def tFs (f o k : Nat) : Bool := (Nat.beq o 0 && (Nat.beq k 40 || Nat.beq k 41)) || ((Nat.beq o 11 || Nat.beq o 12 || Nat.beq o 14) && Nat.ble (14 * f) k)
def lFs (f : Nat) (L L' : zL) : Prop := ∀ o j, ¬ (o = 13 ∧ 14 * f ≤ j) → L' o j = L o j
theorem tFs_x {f o k : Nat} (h : o = 11 ∨ o = 12 ∨ o = 14) (hk : 14 * f ≤ k) : tFs f o k = true := by
  unfold tFs
  rw [show Nat.ble (14 * f) k = true from Nat.ble_eq.mpr hk]
  rcases h with e | e | e <;> subst e <;> rfl
theorem tFs_n {f o k : Nat} (h : o ≠ 0) (hk : k < 14 * f) : tFs f o k = false := by
  unfold tFs
  have b1 : Nat.ble (14 * f) k = false := by
    cases q2 : Nat.ble (14 * f) k with
    | false => rfl
    | true => have := Nat.ble_eq.mp q2; omega
  have b0 : Nat.beq o 0 = false := by
    cases q2 : Nat.beq o 0 with
    | false => rfl
    | true => exact absurd (Nat.eq_of_beq_eq_true q2) h
  rw [b1, b0, Bool.and_false]
  rfl
theorem tFp_tFs {f k : Nat} {I' : zI} (h : zFr (tFp (14 * f + k)) I I') : zFr (tFs f) I I' := fun o j z => h o j (by
  unfold tFs at z
  unfold tFp
  simp only [Bool.or_eq_false_iff, Bool.and_eq_false_iff] at z ⊢
  refine ⟨z.1, ?_⟩
  rcases z.2 with w | w
  · exact Or.inl w
  · refine Or.inr ?_
    cases q2 : Nat.beq j (14 * f + k) with
    | false => rfl
    | true =>
      have e := Nat.eq_of_beq_eq_true q2
      rw [show Nat.ble (14 * f) j = true from Nat.ble_eq.mpr (by omega)] at w
      cases w)
theorem lFp_lFs {f k : Nat} {L' : zL} (h : lFp (14 * f + k) L L') : lFs f L L' := fun o j z => h o j fun ⟨a, b⟩ => z ⟨a, by omega⟩
theorem lFs_tr {f : Nat} {L' L'' : zL} (h : lFs f L L') (h2 : lFs f L' L'') : lFs f L L'' := fun o j z => (h2 o j z).trans (h o j z)
theorem mPt_keep {f k x : Nat} {pt : zpt} {I' : zI} {L' : zL} (h : mPt x pt I L) (hx : x ≠ 14 * f + k) (hf : zFr (tFp (14 * f + k)) I I') (hl : lFp (14 * f + k) L L') : mPt x pt I' L' := by
  have b : Nat.beq x (14 * f + k) = false := by
    cases q2 : Nat.beq x (14 * f + k) with
    | false => rfl
    | true => exact absurd (Nat.eq_of_beq_eq_true q2) hx
  have e : ∀ o, o = 11 ∨ o = 12 ∨ o = 14 → tFp (14 * f + k) o x = false := fun o ho => by
    unfold tFp
    rw [b, Bool.and_false]
    rcases ho with w | w | w <;> subst w <;> rfl
  exact ⟨(hf 11 x (e 11 (by omega))).trans h.1, (hf 12 x (e 12 (by omega))).trans h.2.1, (hf 14 x (e 14 (by omega))).trans h.2.2.1, (hl 13 x (fun w => hx w.2)).trans h.2.2.2⟩
theorem sPtk_get {ps : List zpt} {k : Nat} {pt : zpt} (h : ps[k]? = some pt) : sPtk ps k = pt := by unfold sPtk; rw [h]; rfl
/-- a foe's parts make a foe -/
theorem mFo1_of {f : Nat} {ps : List zpt} (h10 : I 10 f = nI ps.length) (hp : ∀ j pt, ps[j]? = some pt → mPt (14 * f + j) pt I L ∧ ptOk pt) (h1 : 1 ≤ ps.length) (h14 : ps.length ≤ 14) : foOk (sFoF ps) ∧ mFo1 f (sFoF ps) I L := by
  have get : ∀ k, k < ps.length → ∃ pt, ps[k]? = some pt ∧ sPtk ps k = pt := fun k hk => ⟨ps[k], List.getElem?_eq_getElem hk, sPtk_get (List.getElem?_eq_getElem hk)⟩
  refine ⟨⟨⟨h1, h14⟩, fun k hk => ?_⟩, h10, fun k hk => ?_⟩
  · obtain ⟨pt, hg, hs⟩ := get k hk
    obtain ⟨-, o1, o2, o3, o4⟩ := hp k pt hg
    show ((sPtk ps k).1 = 102 ∨ (sPtk ps k).1 = 109 ∨ (sPtk ps k).1 = 116 ∨ (sPtk ps k).1 = 114) ∧ (1 ≤ (sPtk ps k).2.1 ∧ (sPtk ps k).2.1 ≤ 9) ∧ (sPtk ps k).2.2.length ≤ 9 ∧ ∀ i, i < (sPtk ps k).2.2.length → ((sPtk ps k).2.2[i]?).getD 0 ≤ 8
    rw [hs]
    refine ⟨o1, o2, o3, fun i hi => ?_⟩
    rw [List.getElem?_eq_getElem hi]
    exact o4 _ (List.getElem_mem hi)
  · obtain ⟨pt, hg, hs⟩ := get k hk
    obtain ⟨⟨m1, m2, m3, m4⟩, o1, o2, o3, o4⟩ := hp k pt hg
    show I 11 (14 * f + k) = nI (sPtk ps k).1 ∧ I 12 (14 * f + k) = nI (sPtk ps k).2.1 ∧ I 14 (14 * f + k) = nI (sPtk ps k).2.2.length ∧ ∀ i, i < (sPtk ps k).2.2.length → ((L 13 (14 * f + k) >>> (((4 : Int32) * nI i).toInt64 &&& 63)) &&& 15).toInt32 = nI (((sPtk ps k).2.2[i]?).getD 0)
    rw [hs]
    refine ⟨m1, m2, m3, fun i hi => ?_⟩
    rw [m4]
    exact tWish o3 o4 hi
def tFu (f o k : Nat) : Bool := tFs f o k || (Nat.beq o 10 && Nat.beq k f) || (Nat.beq o 0 && (Nat.beq k 31 || Nat.beq k 34 || Nat.beq k 39 || Nat.beq k 23))
theorem tFs_tFu {f : Nat} {I' : zI} (h : zFr (tFs f) I I') : zFr (tFu f) I I' := fun o k z => h o k (by
  unfold tFu at z
  simp only [Bool.or_eq_false_iff] at z
  exact z.1.1)
theorem mFo_keep {I' : zI} {L' : zL} (h : mFo nf fo I L) (hf : zFr (tFs nf) I I') (hl : lFs nf L L') : ∀ f, f < nf → foOk (fo f) ∧ mFo1 f (fo f) I' L' := fun f hfn => by
  obtain ⟨a1, a2, a3⟩ := h.2.2 f hfn
  have h14 := a1.1.2
  refine ⟨a1, (hf 10 f (by unfold tFs; rfl)).trans a2, fun k hk => ?_⟩
  have hx : 14 * f + k < 14 * nf := by omega
  rw [hf 11 _ (tFs_n (by decide) hx), hf 12 _ (tFs_n (by decide) hx), hf 14 _ (tFs_n (by decide) hx), hl 13 _ (fun w => by omega)]
  exact a3 k hk
theorem c_foe (hfo : mFo nf fo I L) (ht : mTx tx tn I) (h8 : nf = 8 → ∀ I' : zI, mFo nf fo I' L → I' 0 31 = 0 → I' 0 34 = 0 → zFr (tFu nf) I I' → post (some (.int (-100))) I' L (zR1 q)) (h1 : nf < 8 → ∀ ps p, tFoe tx tn 41 [] 0 = (some ps, p) → ∀ (I' : zI) (L' : zL), mFo (nf + 1) (fup fo nf (sFoF ps)) I' L' → (ps.length ≤ 14 ∧ 1 ≤ ps.length ∧ ∀ pt, pt ∈ ps → ptOk pt) → I' 0 31 = 0 → I' 0 34 = 0 → zFr (tFu nf) I I' → lFs nf L L' → post (some (.int (nI nf))) I' L' (zR1 q)) (h0 : nf < 8 → ∀ e, tFoe tx tn 41 [] 0 = (none, e) → ∀ (I' : zI) (L' : zL), mFo nf fo I' L' → I' 0 31 = 0 → I' 0 34 = 0 → zFr (tFu nf) I I' → lFs nf L L' → post (some (.int (-1 - nI e))) I' L' (zR1 q)) : zC G (n + 6) 56 [.ref 0] I L (zR1 q) post := by
  have hn8 := hfo.1
  refine zin0 rfl rfl rfl (b56_0 (c_startText (tx := tx) (tn := tn) ?_ fun I1 hp1 h311 ho1 => ?_))
  · exact ⟨ht.1, ht.2.1, fun j hj => by rw [zup_ne (by decide)]; exact ht.2.2 j hj⟩
  have h341 : I1 0 34 = 0 := by rw [ho1 0 34 (by omega)]; rfl
  have hf1 : zFr (tFu nf) I I1 := fun o k z => by
    unfold tFu tFs at z
    simp only [Bool.or_eq_false_iff] at z
    rw [ho1 o k (fun ⟨x1, x2⟩ => by subst x1; rcases x2 with a | a | a | a <;> subst a <;> first | (cases z.2; done) | (cases z.1.1.1; done))]
    unfold zup
    by_cases d : o = 0
    · rw [if_pos d, if_neg (fun a => by subst d a; cases z.2)]
    · rw [if_neg d]
  have e23 : I1 0 23 = nI nf := by rw [ho1 0 23 (by omega)]; exact hfo.2.1
  have hfo1 : mFo nf fo I1 L := by
    refine ⟨hn8, e23, fun f hf => ⟨(hfo.2.2 f hf).1, ?_⟩⟩
    have x : ∀ o, o ≠ 0 → I1 o = I o := fun o ho => funext fun k => by rw [ho1 o k (by omega), zup_ne ho]
    unfold mFo1
    rw [x 10 (by decide), x 11 (by decide), x 12 (by decide), x 14 (by decide)]
    exact (hfo.2.2 f hf).2
  refine pk_ne nf 8 (fun z => b56_21 ?_) (fun z => ?_) e23 rfl (by omega) (by omega)
  · have hlt : nf < 8 := by omega
    have h1 := h1 hlt
    have h0 := h0 hlt
    have bad : ∀ (e p : Nat) (x1 : Int32) (I2 : zI) (L2 : zL), tFoe tx tn 41 [] 0 = (none, e) → mPr tx tn p (some e) I2 → zFr (tFs nf) I1 I2 → lFs nf L L2 → zQ G 56 (n + 5) post 47 [some (.ref 0), some (.int x1), none] [] I2 L2 (zR1 q) := by
      intro e p x1 I2 L2 hR hp2 hf2 hl2
      have hne : ¬ (-1 - nI e = 0) := (by decide : ∀ e, e ≤ 60 → ¬ (-1 - nI e = 0)) e (hp2.2.2.2.2.2.1 e rfl)
      refine b56_47 (c_ends1 hp2 (And.intro (fun w => absurd w hne) (fun _ => ?_)))
      exact h0 e hR I2 L2 ⟨hn8, (hf2 0 23 rfl).trans e23, mFo_keep hfo1 hf2 hl2⟩ ((hf2 0 31 rfl).trans h311) ((hf2 0 34 rfl).trans h341) (zFr_tr hf1 (tFs_tFu hf2)) hl2
    have parts : ∀ (fl : Nat) (ps : List zpt) (a : Nat) (I2 : zI) (L2 : zL), 41 ≤ fl + a → a ≤ 40 → 3 * ps.length ≤ a → tFoe tx tn fl ps a = tFoe tx tn 41 [] 0 → (∀ j pt, ps[j]? = some pt → mPt (14 * nf + j) pt I2 L2 ∧ ptOk pt) → mPr tx tn a none I2 → zFr (tFs nf) I1 I2 → lFs nf L L2 → zQ G 56 (n + 5) post 23 [some (.ref 0), some (.int (nI ps.length)), none] [] I2 L2 (zR1 q) := by
      intro fl
      induction fl with
      | zero => intro ps a I2 L2 hfa ha; omega
      | succ fl ih =>
        intro ps a I2 L2 hfa ha h3 hR hps hp2 hf2 hl2
        rw [tFoe] at hR
        refine b56_23 (c_foePart hlt (k := ps.length) (by omega) ((hf2 0 23 rfl).trans e23) hp2 (fun pt p hP hptok hap hp41 I3 L3 hp3 hm3 hf3 hl3 => ?_) (fun e hP p I3 L3 hp3 hf3 hl3 => ?_))
        · rw [hP] at hR
          have hR : (if tH tx tn p = some 59 then tFoe tx tn fl (ps ++ [pt]) (p + 1) else tEnd tn (ps ++ [pt]) p) = tFoe tx tn 41 [] 0 := hR
          have hf13 := zFr_tr hf2 (tFp_tFs hf3)
          have hl13 := lFs_tr hl2 (lFp_lFs hl3)
          have hps3 : ∀ j pt', (ps ++ [pt])[j]? = some pt' → mPt (14 * nf + j) pt' I3 L3 ∧ ptOk pt' := fun j pt' hj => by
            rcases snoc_get hj with ⟨a1, a2⟩ | ⟨a1, a2⟩
            · rw [a1, a2]
              exact ⟨hm3, hptok⟩
            · exact ⟨mPt_keep (hps j pt' a2).1 (by omega) hf3 hl3, (hps j pt' a2).2⟩
          have e1 : nI ps.length + 1 = nI (ps ++ [pt]).length := by rw [snoc_len, nI_1]
          refine c_fine hp3 (And.intro (fun w => absurd w (by decide)) (fun _ => c_passes (c := 59) rfl hp3 (by decide) (fun z2 => ?_) (fun z2 => ?_)))
          · rw [if_pos z2] at hR
            have hp40 := (tH_lt hp3 z2).2.2
            refine And.intro (fun _ => ?_) (fun w => absurd w (by decide))
            have qq := ih (ps ++ [pt]) (p + 1) (zup I3 0 40 (nI (p + 1))) L3 (by omega) (by omega) (by rw [snoc_len]; omega) hR (fun j pt' hj => ?_) (mPr_at hp3 (by omega)) (zFr_tr hf13 (zFr_up (zFr_0 _ _) rfl)) hl13
            · rw [← e1] at qq
              exact qq
            · have w := hps3 j pt' hj
              unfold mPt at w ⊢
              rw [zup_ne (by decide), zup_ne (by decide), zup_ne (by decide)]
              exact w
          · rw [if_neg z2] at hR
            refine And.intro (fun w => absurd rfl w) (fun _ => b56_47 (c_ends hp3 (fun z3 => ?_) (fun z3 => ?_)))
            · have hne : ¬ (-1 - nI p = 0) := (by decide : ∀ e, e ≤ 60 → ¬ (-1 - nI e = 0)) p (by omega)
              unfold tEnd at hR
              rw [if_pos z3] at hR
              have hf4 : zFr (tFs nf) I1 (zup I3 0 41 (nI p)) := zFr_up hf13 rfl
              refine And.intro (fun w => absurd w hne) (fun _ => h0 p hR.symm _ L3 ⟨hn8, (hf4 0 23 rfl).trans e23, mFo_keep hfo1 hf4 hl13⟩ ((hf4 0 31 rfl).trans h311) ((hf4 0 34 rfl).trans h341) (zFr_tr hf1 (tFs_tFu hf4)) hl13)
            · unfold tEnd at hR
              rw [if_neg (by omega)] at hR
              have e233 : I3 0 23 = nI nf := (hf13 0 23 rfl).trans e23
              have ec : (I3 0 23).toNatClampNeg = nf := by rw [e233, nI_clamp (by omega)]
              refine And.intro (fun _ => b56_58 (And.intro (by show vp_in (I3 0 23) 8; rw [e233]; exact vp_in_nI hlt (by decide)) (And.intro rfl ?_))) (fun w => absurd rfl w)
              obtain ⟨I4, hI4⟩ : ∃ I4 : zI, I4 = zup (zup I3 10 nf (nI (ps ++ [pt]).length)) 0 23 (nI (nf + 1)) := ⟨_, rfl⟩
              have i4o : ∀ o j, o ≠ 10 → ¬ (o = 0 ∧ j = 23) → I4 o j = I3 o j := fun o j h10 hh => by
                rw [hI4]
                unfold zup
                by_cases d : o = 0
                · rw [if_pos d, if_neg (fun w => hh ⟨d, w⟩), if_neg h10]
                · rw [if_neg d, if_neg h10]
              have i410 : ∀ j, I4 10 j = if j = nf then nI (ps ++ [pt]).length else I3 10 j := fun j => by rw [hI4, zup_ne (by decide), zup_eq]
              have hps4 : ∀ j pt', (ps ++ [pt])[j]? = some pt' → mPt (14 * nf + j) pt' I4 L3 ∧ ptOk pt' := fun j pt' hj => by
                obtain ⟨⟨w1, w2, w3, w4⟩, w5⟩ := hps3 j pt' hj
                exact ⟨⟨(i4o 11 _ (by decide) (by omega)).trans w1, (i4o 12 _ (by decide) (by omega)).trans w2, (i4o 14 _ (by decide) (by omega)).trans w3, w4⟩, w5⟩
              have hlen : (ps ++ [pt]).length ≤ 14 ∧ 1 ≤ (ps ++ [pt]).length := by rw [snoc_len]; omega
              have hkeep := mFo_keep hfo1 hf13 hl13
              have hfr4 : zFr (tFu nf) I I4 := zFr_tr hf1 fun o k z4 => by
                unfold tFu at z4
                simp only [Bool.or_eq_false_iff] at z4
                by_cases d10 : o = 10
                · subst d10
                  rw [i410]
                  have hk : k ≠ nf := fun w => by subst w; rw [Nat.beq_refl k] at z4; cases z4.1.2
                  rw [if_neg hk]
                  exact hf13 10 k z4.1.1
                · rw [i4o o k d10 (fun ⟨w1, w2⟩ => by subst w1 w2; cases z4.2)]
                  exact hf13 o k z4.1.1
              have qq := h1 (ps ++ [pt]) p hR.symm I4 L3 ⟨by omega, by rw [hI4]; exact zup_self, fun f hf => ?_⟩ ⟨hlen.1, hlen.2, fun pt' hm => ?_⟩ ?_ ?_ hfr4 hl13
              · show post (some (.int (zup (zup I3 10 (I3 0 23).toNatClampNeg (nI ps.length + 1)) 0 23 (I3 0 23 + 1) 0 23 - 1))) (zup (zup I3 10 (I3 0 23).toNatClampNeg (nI ps.length + 1)) 0 23 (I3 0 23 + 1)) L3 (zR1 q)
                rw [ec, e1, e233, nI_1, ← hI4, hI4, zup_self, nI_pred, ← hI4]
                exact qq
              · by_cases d : f = nf
                · subst d
                  rw [fup_s]
                  exact mFo1_of (by rw [i410, if_pos rfl]) hps4 hlen.2 hlen.1
                · rw [fup_n d]
                  obtain ⟨a1, a2, a3⟩ := hkeep f (by omega)
                  refine ⟨a1, by rw [i410, if_neg d]; exact a2, fun k hk => ?_⟩
                  rw [i4o 11 _ (by decide) (by omega), i4o 12 _ (by decide) (by omega), i4o 14 _ (by decide) (by omega)]
                  exact a3 k hk
              · obtain ⟨j, hj, e⟩ := List.getElem_of_mem hm
                exact (hps4 j pt' (by rw [List.getElem?_eq_getElem hj, e])).2
              · rw [i4o 0 31 (by decide) (by omega)]
                exact (hf13 0 31 rfl).trans h311
              · rw [i4o 0 34 (by decide) (by omega)]
                exact (hf13 0 34 rfl).trans h341
        · rw [hP] at hR
          have hR : (none, e) = tFoe tx tn 41 [] 0 := hR
          have hf13 := zFr_tr hf2 (tFp_tFs hf3)
          have hl13 := lFs_tr hl2 (lFp_lFs hl3)
          refine c_fine hp3 (And.intro (fun _ => bad e p _ I3 L3 hR.symm hp3 hf13 hl13) (fun w => absurd rfl w))
    exact parts 41 [] 0 I1 L (by omega) (by omega) (Nat.zero_le _) rfl (fun j pt hj => by cases hj) hp1 (zFr_0 _ _) (fun _ _ _ => rfl)
  · exact h8 z I1 hfo1 h311 h341 hf1
end
