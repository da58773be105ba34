-- ===== the reference: the fewest beads =====
/-- whether so many games go by without resigning -/
def sLst (g : zg) (fr : Nat → Nat) (rl : zrl) (ru : Option Nat) (F : zfo) : Nat → sC → Bool
  | 0, _ => true
  | k + 1, c => if (sGm g fr rl ru F c).1 = 3 then false else sLst g fr rl ru F k (sGm g fr rl ru F c).2.1
/-- the first v, i of those from v0 on -/
def sFew (g : zg) (rl : zrl) (ru : Option Nat) (F : zfo) (c : sC) (n : Nat) : Nat → Nat → Option Nat
  | 0, _ => none
  | j + 1, v => if sLst g (fun _ => v) rl ru F n (cClr c) = true then some v else sFew g rl ru F c n j (v + 1)
theorem cAll_clr {c : sC} (h : cAll c) : cAll (cClr c) := by
  have hb := cAll_bd h (k := 0) (by omega)
  have e : ∀ n, sSum (fun _ => 0) n = 0 := fun n => by
    induction n with
    | zero => rfl
    | succ n ih => show sSum _ n + 0 = 0; rw [ih]
  show sSum (fun _ => 0) 177147 + (10000 - c.2.2.2.1) + c.2.2.2.1 = 10000
  rw [e]
  omega
theorem cIn_clr {g : zg} {c : sC} (h : cAll c) : cIn g (cClr c) := ⟨cAll_clr h, (fun b hb => by cases hb), fun b k _ hne => absurd rfl hne⟩
/-- what stands beside the chest -/
def gE (g : zg) (fr : Nat → Nat) (nr : Nat) (rl : zrl) (ru : Option Nat) (nf : Nat) (fo : Nat → zfo) (I : zI) (L : zL) : Prop := mG g I ∧ mPos g I ∧ mF fr I ∧ mFo nf fo I L ∧ mRl nr rl ru I ∧ I 0 35 = 0
theorem gE_W {g : zg} {fr : Nat → Nat} {nr : Nat} {rl : zrl} {ru : Option Nat} {nf : Nat} {fo : Nat → zfo} {I : zI} {L : zL} {f : Nat} {c : sC} (h : gE g fr nr rl ru nf fo I L) (hf : f < nf) (hi : cIn g c) (hc : mC c I) : gW g fr nr rl ru f (fo f) c I L := ⟨h.1, h.2.1, h.2.2.1, (h.2.2.2.1.2.2 f hf).2, h.2.2.2.2.1, hi, hc, h.2.2.2.2.2⟩
/-- rows that the environment doesn't lie in -/
def tE2 (o k : Nat) : Bool := tQ o k || Nat.beq o 20 || Nat.beq o 29 || Nat.beq o 30 || Nat.beq o 31 || Nat.beq o 32 || Nat.beq o 33 || Nat.beq o 34 || Nat.beq o 35 || (Nat.beq o 0 && Nat.beq k 64)
theorem tQ_tE2 {I I' : zI} (h : zFr tQ I I') : zFr tE2 I I' := fun o k z => h o k (by
  unfold tE2 at z
  simp only [Bool.or_eq_false_iff] at z
  exact z.1.1.1.1.1.1.1.1.1)
theorem gE_fr {g : zg} {fr : Nat → Nat} {nr : Nat} {rl : zrl} {ru : Option Nat} {nf : Nat} {fo : Nat → zfo} {I I' : zI} {L L' : zL} (h : gE g fr nr rl ru nf fo I L) (hf : zFr tE2 I I') (hL : L' 13 = L 13) : gE g fr nr rl ru nf fo I' L' := by
  obtain ⟨a1, a2, a3, a4, a5, a6⟩ := h
  refine ⟨⟨a1.1, fun k hk => (hf 0 k ((by decide : ∀ k, k < 9 → tE2 0 k = false) k hk)).trans (a1.2 k hk)⟩, mPos_of a2 (zFr_row hf fun _ => rfl) (zFr_row hf fun _ => rfl) (zFr_row hf fun _ => rfl), fun s hs => ⟨(hf 6 s rfl).trans (a3 s hs).1, (a3 s hs).2⟩, ⟨a4.1, (hf 0 23 rfl).trans a4.2.1, fun f hff => ⟨(a4.2.2 f hff).1, ?_⟩⟩, mRl_of a5 (hf 0 18 rfl) (hf 0 22 rfl) (zFr_row hf fun _ => rfl) (zFr_row hf fun _ => rfl) (zFr_row hf fun _ => rfl), (hf 0 35 rfl).trans a6⟩
  unfold mFo1
  rw [zFr_row (o := 10) hf fun _ => rfl, zFr_row (o := 11) hf fun _ => rfl, zFr_row (o := 12) hf fun _ => rfl, zFr_row (o := 14) hf fun _ => rfl, hL]
  exact (a4.2.2 f hff).2
section
variable {G : zG} {n : Nat} {I : zI} {L : zL} {q : zq} {post : zPo} {g : zg} {c : sC} {w : uW} {fr : Nat → Nat} {f nr nf : Nat} {F : zfo} {rl : zrl} {ru : Option Nat} {en : Nat → Int32}
theorem mK_of {i : Nat} {I' : zI} (h : mK i c I) (h30 : I' 30 = I 30) (h31 : I' 31 = I 31) (h32 : I' 32 = I 32) : mK i c I' := by
  unfold mK
  rw [h30, h31, h32]
  exact h
/-- the chest and its room, fresh beads and what of them was: what few may touch -/
def tFw (o k : Nat) : Bool := tP o k || tK o k || Nat.beq o 6 || Nat.beq o 35 || (Nat.beq o 0 && Nat.beq k 34)
theorem tP_tFw {I I' : zI} (h : zFr tP I I') : zFr tFw I I' := fun o k z => h o k (by
  unfold tFw at z
  simp only [Bool.or_eq_false_iff] at z
  exact z.1.1.1.1)
theorem tC_tFw {I I' : zI} (h : zFr tC I I') : zFr tFw I I' := tP_tFw (tC_tP h)
theorem tE_tFw {I I' : zI} (h : zFr tE I I') : zFr tFw I I' := fun o k z => h o k (by
  unfold tFw tP tC at z
  simp only [Bool.or_eq_false_iff] at z
  obtain ⟨⟨⟨⟨⟨⟨⟨⟨⟨⟨⟨⟨z1, z2⟩, z3⟩, z4⟩, z5⟩, z6⟩, z7⟩, z8⟩, z9⟩, z10⟩, z11⟩, z12⟩, z13⟩ := z
  unfold tE
  simp only [Bool.or_eq_false_iff]
  refine ⟨⟨z1, z2⟩, ?_⟩
  simp only [Bool.and_eq_false_iff, Bool.or_eq_false_iff] at z5 ⊢
  rcases z5 with a | a
  · exact Or.inl a
  · exact Or.inr a.1.1.1)
theorem gW_few {c' : sC} {fr' : Nat → Nat} {I' : zI} (hw : gW g fr nr rl ru f F c I L) (hf : zFr tFw I I') (h6 : mF fr' I') (hi : cIn g c') (hc : mC c' I') : gW g fr' nr rl ru f F c' I' L := by
  obtain ⟨a1, a2, a3, a4, a5, a6, a7, a8⟩ := hw
  refine ⟨⟨a1.1, fun k hk => (hf 0 k ((by decide : ∀ k, k < 9 → tFw 0 k = false) k hk)).trans (a1.2 k hk)⟩, mPos_of a2 (zFr_row hf fun _ => rfl) (zFr_row hf fun _ => rfl) (zFr_row hf fun _ => rfl), h6, ?_, mRl_of a5 (hf 0 18 rfl) (hf 0 22 rfl) (zFr_row hf fun _ => rfl) (zFr_row hf fun _ => rfl) (zFr_row hf fun _ => rfl), hi, hc, (hf 0 35 rfl).trans a8⟩
  unfold mFo1
  rw [zFr_row (o := 10) hf fun _ => rfl, zFr_row (o := 11) hf fun _ => rfl, zFr_row (o := 12) hf fun _ => rfl, zFr_row (o := 14) hf fun _ => rfl]
  exact a4
theorem c_few0 {x y : Int32} (h8 : nf ≤ 8) (h23 : I 0 23 = nI nf) (hx : xOut x nf) (h : post (some (.int (-1))) (zup I 0 34 0) L (zR1 q)) : zC G (n + 3) 117 [.ref 0, .int x, .int y] I L (zR1 q) post := zin0 rfl rfl rfl (b117_0 (c_isFoe0 h8 h23 hx (And.intro (fun _ => b117_23 h) (fun z => absurd rfl z))))
theorem c_in1N {x : Int32} {m : Nat} {hi : Int32} {R : zR} (hh : hi = nI m) (hm : m < 2 ^ 20) (h1 : ∀ k, x = nI k → 1 ≤ k → k ≤ m → post (some (.int 1)) I L R) (h0 : (∀ k, x = nI k → 1 ≤ k → m < k) → post (some (.int 0)) I L R) : zC G (n + 1) 2 [.int x, .int 1, .int hi] I L R post := by
  subst hh
  rcases pk_ix x (n := m + 1) (by omega) with c | c | ⟨k, hk, rfl⟩
  · refine c_in ?_
    rw [decide_eq_false (fun w => Int32.not_lt.mpr (Int32.le_trans (by decide) w.1) c)]
    refine h0 fun k hk h1k => ?_
    by_cases z : k ≤ m
    · rw [hk] at c
      exact absurd c (nI_pos (by omega))
    · omega
  · refine c_in ?_
    rw [decide_eq_false (fun w => by
      have a := Int32.le_trans c w.2
      rw [nI_leI (by omega) (by omega)] at a
      omega)]
    refine h0 fun k hk h1k => ?_
    by_cases z : k ≤ m
    · rw [hk, nI_leI (by omega) (by omega)] at c
      omega
    · omega
  · refine c_inN (x := k) (lo := 1) (hi := m) rfl rfl rfl (by omega) (by omega) (by omega) ?_
    by_cases d : 1 ≤ k
    · rw [decide_eq_true (by omega)]
      exact h1 k rfl d (by omega)
    · rw [decide_eq_false (by omega)]
      refine h0 fun k' hk' h1k => ?_
      by_cases z : k' ≤ m
      · have := nI_inj (by omega) (by omega) hk'
        omega
      · omega
theorem c_few {y : Int32} (hw : gW g fr nr rl ru f F c I L) (hf : f < nf) (h8 : nf ≤ 8) (h23 : I 0 23 = nI nf) (hok : foOk F) (h1 : ∀ k, y = nI k → 1 ≤ k → k ≤ 50 → ∀ I' : zI, gW g fr nr rl ru f F c I' L → (∀ j c', j < 3 → mK j c' I → mK j c' I') → I' 0 34 = 0 → zFr tFw I I' → (∀ s, s < 21 → I' 6 s = I 6 s) → post (some (.int (zo2 (sFew g rl ru F c k 20 1)))) I' L (zR1 q)) (h0 : (∀ k, y = nI k → 1 ≤ k → 50 < k) → post (some (.int (-1))) (zup I 0 34 0) L (zR1 q)) : zC G (n + 10) 117 [.ref 0, .int (nI f), .int y] I L (zR1 q) post := by
  have hin := hw.2.2.2.2.2.1
  refine zin0 rfl rfl rfl (b117_0 (c_isFoe1 hf h8 h23 (And.intro (fun z => absurd z (by decide)) (fun _ => c_in1N (m := 50) rfl (by omega) (fun k hk hk1 hk2 => ?_) (fun ho => And.intro (fun z => absurd rfl z) (fun _ => b117_23 (h0 ho)))))))
  subst hk
  have qq := h1 k rfl hk1 hk2
  refine And.intro (fun _ => b117_25 ?_) (fun z => absurd z (by decide))
  refine c_keepIn (i := 3) (by omega) (mC_34 hw.2.2.2.2.2.2.1) fun I0 hk0 hoth hfk => ?_
  have hfr0 : zFr tFw I I0 := zFr_tr (zFr_up (zFr_0 _ _) rfl) fun o x z => hfk o x (by
    unfold tFw at z
    simp only [Bool.or_eq_false_iff] at z
    exact z.1.1.1.2)
  have h340 : I0 0 34 = 0 := by rw [hfk 0 34 rfl]; rfl
  have hoth0 : ∀ j c', j < 3 → mK j c' I → mK j c' I0 := fun j c' hj hkj => hoth j c' (by omega) (by omega) (mK_of hkj (zup_ne (by decide)) (zup_ne (by decide)) (zup_ne (by decide)))
  have h6I : ∀ s, s < 21 → I0 6 s = I 6 s := fun s hs => by rw [hfk 6 s rfl, zup_ne (by decide)]
  -- the state between
  have hSt : ∀ I' : zI, (∀ o, (o = 30 ∨ o = 31 ∨ o = 32) → I' o = I0 o) → mK 3 c I' := fun I' ho => mK_of hk0 (ho 30 (by omega)) (ho 31 (by omega)) (ho 32 (by omega))
  -- the last: fresh beads and chest brought back
  have last : ∀ (r : Option Nat), r = sFew g rl ru F c k 20 1 → ∀ I' : zI, zFr tFw I I' → (∀ o, (o = 30 ∨ o = 31 ∨ o = 32) → I' o = I0 o) → (∀ s, s < 21 → I' 35 s = I 6 s) → I' 0 34 = 0 → zQ G 117 (n + 9) post 160 [some (.ref 0), some (.int (nI f)), some (.int (nI k)), some (.int (zo2 r)), none, none, none] [] I' L (zR1 q) := by
    intro r hr I' hf' hk' h35 h34
    have key : ∀ j i : Nat, i + j = 21 → ∀ J : zI, (∀ s, s < i → J 6 s = I 6 s) → (∀ o, o ≠ 6 → J o = I' o) → zQ G 117 (n + 9) post 163 [some (.ref 0), some (.int (nI f)), some (.int (nI k)), some (.int (zo2 r)), some (.int (nI i)), none, none] [] J L (zR1 q) := by
      intro j
      induction j with
      | zero =>
        intro i hi J hJ ho
        have hfJ : zFr tFw I J := zFr_tr hf' fun o x z => by rw [ho o (fun a => by subst a; cases z)]
        refine b117_163 (pk_le 21 i (fun _ => b117_190 ?_) (fun z => absurd z (by omega)) rfl rfl (by omega) (by omega))
        have h30 : ∀ o, (o = 30 ∨ o = 31 ∨ o = 32) → J o = I0 o := fun o hh => by rw [ho o (by omega)]; exact hk' o hh
        refine c_bringBack (c := c) (i := 3) (by omega) (hSt J h30) fun I2 hc2 hf2 => ?_
        have e6 : ∀ s, s < 21 → I2 6 s = I 6 s := fun s hs => by rw [hf2 6 s rfl]; exact hJ s (by omega)
        have hfI2 := zFr_tr hfJ (tC_tFw hf2)
        rw [hr]
        refine qq I2 (gW_few hw hfI2 (fun s hs => ⟨by rw [e6 s hs]; exact (hw.2.2.1 s hs).1, (hw.2.2.1 s hs).2⟩) hin hc2) (fun j c' hj hkj => mK_of (hoth0 j c' hj hkj) ?_ ?_ ?_) ?_ hfI2 e6
        · rw [zFr_row (o := 30) hf2 fun _ => rfl, h30 30 (by omega)]
        · rw [zFr_row (o := 31) hf2 fun _ => rfl, h30 31 (by omega)]
        · rw [zFr_row (o := 32) hf2 fun _ => rfl, h30 32 (by omega)]
        · rw [hf2 0 34 rfl, ho 0 (by decide)]
          exact h34
      | succ j ih =>
        intro i hi J hJ ho
        have ec : (nI i).toNatClampNeg = i := nI_clamp (by omega)
        have v : vp_in (nI i) 21 := vp_in_nI (by omega) (by decide)
        refine b117_163 (pk_le 21 i (fun z => absurd z (by omega)) (fun _ => And.intro v (And.intro v ?_)) rfl rfl (by omega) (by omega))
        have q2 := ih (i + 1) (by omega) (zup J 6 (nI i).toNatClampNeg (J 35 (nI i).toNatClampNeg)) (fun s hs => ?_) (fun o hh => by rw [zup_ne hh]; exact ho o hh)
        · rw [← nI_1] at q2
          exact q2
        · rw [ec, zup_eq]
          by_cases d : s = i
          · rw [if_pos d, ho 35 (by decide), d]
            exact h35 i (by omega)
          · rw [if_neg d]
            exact hJ s (by omega)
    have q2 := key 21 0 (by omega) I' (fun _ hs => absurd hs (by omega)) (fun _ _ => rfl)
    exact b117_160 (zP_lv (by exact ⟨rfl, rfl, rfl, rfl, rfl, trivial⟩) q2)
  -- trying
  have tryv : ∀ (j v : Nat), v + j = 21 → 1 ≤ v → sFew g rl ru F c k j v = sFew g rl ru F c k 20 1 → ∀ I' : zI, zFr tFw I I' → (∀ o, (o = 30 ∨ o = 31 ∨ o = 32) → I' o = I0 o) → (∀ s, s < 21 → I' 35 s = I 6 s) → I' 0 34 = 0 → zQ G 117 (n + 9) post 62 [some (.ref 0), some (.int (nI f)), some (.int (nI k)), some (.int (-2)), some (.int (nI v)), none, none] [] I' L (zR1 q) := by
    intro j
    induction j with
    | zero =>
      intro v hv hv1 hs I' hf' hk' h35 h34
      refine b117_62 (pk_lt 20 v (fun _ => zP_lv (by exact ⟨rfl, rfl, rfl, rfl, trivial⟩) (last none (by rw [← hs]; rfl) I' hf' hk' h35 h34)) (fun z => absurd z (by omega)) rfl rfl (by omega) (by omega))
    | succ j ih =>
      intro v hv hv1 hs I' hf' hk' h35 h34
      refine b117_62 (pk_lt 20 v (fun z => absurd z (by omega)) (fun _ => And.intro (fun z => absurd z (by decide)) (fun _ => ?_)) rfl rfl (by omega) (by omega))
      refine c_bringBack (c := c) (i := 3) (by omega) (hSt I' hk') fun I2 hc2 hf2 => ?_
      refine c_emptyAll hc2 hin.1 (cIn_emp hin) fun I3 hc3 hf3 => ?_
      have hfI3 := zFr_tr hf' (zFr_tr (tC_tFw hf2) (tE_tFw hf3))
      have hk3 : ∀ o, (o = 30 ∨ o = 31 ∨ o = 32) → I3 o = I0 o := fun o hh => by
        rw [zFr_row (o := o) hf3 (fun x => by rcases hh with a | a | a <;> subst a <;> rfl), zFr_row (o := o) hf2 (fun x => by rcases hh with a | a | a <;> subst a <;> rfl)]
        exact hk' o hh
      have h35' : ∀ s, s < 21 → I3 35 s = I 6 s := fun s hs => by rw [hf3 35 s rfl, hf2 35 s rfl]; exact h35 s hs
      have h34' : I3 0 34 = 0 := by rw [hf3 0 34 rfl, hf2 0 34 rfl]; exact h34
      rw [sFew] at hs
      -- the games
      have games : ∀ (i r : Nat) (c' : sC) (I' : zI), r + i = k → sLst g (fun _ => v) rl ru F i c' = sLst g (fun _ => v) rl ru F k (cClr c) → gW g (fun _ => v) nr rl ru f F c' I' L → zFr tFw I I' → (∀ o, (o = 30 ∨ o = 31 ∨ o = 32) → I' o = I0 o) → (∀ s, s < 21 → I' 35 s = I 6 s) → I' 0 34 = 0 → zQ G 117 (n + 9) post 113 [some (.ref 0), some (.int (nI f)), some (.int (nI k)), some (.int (-2)), some (.int (nI v)), some (.int 0), some (.int (nI r))] [] I' L (zR1 q) := by
        intro i
        induction i with
        | zero =>
          intro r c' I' hr hl hw' hf' hk' h35 h34
          have e : r = k := by omega
          subst e
          rw [← hl, sLst, if_pos rfl] at hs
          refine b117_113 (pk_le r r (fun _ => b117_146 (And.intro (fun z => absurd rfl z) (fun _ => b117_154 ?_))) (fun z => absurd z (by omega)) rfl rfl (by omega) (by omega))
          -- found
          have q2 := last (some v) hs I' hf' hk' h35 h34
          have fin : zQ G 117 (n + 9) post 62 [some (.ref 0), some (.int (nI f)), some (.int (nI r)), some (.int (nI v)), some (.int (nI (v + 1))), some (.int 0), some (.int (nI r))] [] I' L (zR1 q) := by
            refine b117_62 (pk_lt 20 (v + 1) (fun _ => zP_lv (by exact ⟨rfl, rfl, rfl, rfl, trivial⟩) q2) (fun _ => And.intro (fun _ => zP_lv (by exact ⟨rfl, rfl, rfl, rfl, trivial⟩) q2) (fun z => absurd (nI_pos' (by omega)) z)) rfl rfl (by omega) (by omega))
          rw [← nI_1] at fin
          exact fin
        | succ i ihi =>
          intro r c' I' hr hl hw' hf' hk' h35 h34
          obtain ⟨a1, a2, a3, a4, a5, a6, a7, a8⟩ := id hw'
          have hh := sGm_how (g := g) (fr := fun _ => v) (rl := rl) (ru := ru) (F := F) (c := c')
          refine b117_113 (pk_le k r (fun z => absurd z (by omega)) (fun _ => And.intro (fun z => absurd rfl z) (fun _ => ?_)) rfl rfl (by omega) (by omega))
          refine c_playGame a1 a2 a3 (by omega) hok a4 a5 a6 a7 a8 fun I2 hc2 _ hf2 => ?_
          have hfI2 := zFr_tr hf' (tP_tFw hf2)
          have hk2' : ∀ o, (o = 30 ∨ o = 31 ∨ o = 32) → I2 o = I0 o := fun o hh => by
            rw [zFr_row (o := o) hf2 (fun x => by rcases hh with a | a | a <;> subst a <;> rfl)]
            exact hk' o hh
          have h35'' : ∀ s, s < 21 → I2 35 s = I 6 s := fun s hs => by rw [hf2 35 s rfl]; exact h35 s hs
          have h34'' : I2 0 34 = 0 := by rw [hf2 0 34 rfl]; exact h34
          rw [sLst] at hl
          refine pk_ne (sGm g (fun _ => v) rl ru F c').1 3 (fun z => b117_137 (b117_138 ?_)) (fun z => b117_138 ?_) rfl rfl (by omega) (by omega)
          · rw [if_neg z] at hl
            have q2 := ihi (r + 1) _ I2 (by omega) hl ⟨mG_tP a1 hf2, mPos_tP a2 hf2, mF_tP a3 hf2, mFo1_tP a4 hf2, mRl_tP a5 hf2, sGm_in a1.1 a6, hc2, (hf2 0 35 rfl).trans a8⟩ hfI2 hk2' h35'' h34''
            rw [← nI_1] at q2
            exact q2
          · rw [if_pos z] at hl
            rw [← hl, if_neg Bool.false_ne_true] at hs
            have q2 := ih (v + 1) (by omega) (by omega) hs I2 hfI2 hk2' h35'' h34''
            rw [← nI_1] at q2
            have q3 : zQ G 117 (n + 9) post 146 [some (.ref 0), some (.int (nI f)), some (.int (nI k)), some (.int (-2)), some (.int (nI v)), some (.int 1), some (.int (nI r + 1))] [] I2 L (zR1 q) := b117_146 (And.intro (fun _ => b117_154 (zP_lv (by exact ⟨rfl, rfl, rfl, rfl, rfl, trivial⟩) q2)) (fun z => absurd z (by decide)))
            refine b117_113 ?_
            refine pk_le k (r + 1) (fun _ => q3) (fun _ => And.intro (fun _ => q3) (fun z => absurd z (by decide))) rfl (nI_1 r) (by omega) (by omega)
      have fill : ∀ j i : Nat, i + j = 21 → ∀ J : zI, (∀ s, s < i → J 6 s = nI v) → (∀ o, o ≠ 6 → J o = I3 o) → zQ G 117 (n + 9) post 85 [some (.ref 0), some (.int (nI f)), some (.int (nI k)), some (.int (-2)), some (.int (nI v)), some (.int (nI i)), none] [] J L (zR1 q) := by
        intro j
        induction j with
        | zero =>
          intro i hi J hJ ho
          have hfJ : zFr tFw I J := zFr_tr hfI3 fun o x z => by rw [ho o (fun a => by subst a; cases z)]
          have hcJ : mC (cClr c) J := mC_Q hc3 (ho 5 (by decide)) (ho 4 (by decide)) (fun x _ => by rw [ho 0 (by decide)])
          refine b117_85 (pk_le 21 i (fun _ => b117_107 ?_) (fun z => absurd z (by omega)) rfl rfl (by omega) (by omega))
          exact games k 0 (cClr c) J (by omega) rfl (gW_few hw hfJ (fun s hs => ⟨hJ s (by omega), by show v ≤ 20; omega⟩) (cIn_clr hin.1) hcJ) hfJ (fun o hh => by rw [ho o (by omega)]; exact hk3 o hh) (fun s hs => by rw [ho 35 (by decide)]; exact h35' s hs) (by rw [ho 0 (by decide)]; exact h34')
        | succ j ihf =>
          intro i hi J hJ ho
          have ec : (nI i).toNatClampNeg = i := nI_clamp (by omega)
          have v1 : vp_in (nI i) 21 := vp_in_nI (by omega) (by decide)
          refine b117_85 (pk_le 21 i (fun z => absurd z (by omega)) (fun _ => And.intro v1 ?_) rfl rfl (by omega) (by omega))
          have q2 := ihf (i + 1) (by omega) (zup J 6 (nI i).toNatClampNeg (nI v)) (fun s hs => ?_) (fun o hh => by rw [zup_ne hh]; exact ho o hh)
          · rw [← nI_1] at q2
            exact q2
          · rw [ec, zup_eq]
            by_cases d : s = i
            · rw [if_pos d]
            · rw [if_neg d]
              exact hJ s (by omega)
      exact fill 21 0 (by omega) I3 (fun _ hs => absurd hs (by omega)) (fun _ _ => rfl)
  -- fresh beads remembered
  have keep : ∀ j i : Nat, i + j = 21 → ∀ J : zI, (∀ s, s < i → J 35 s = I 6 s) → (∀ o, o ≠ 35 → J o = I0 o) → zQ G 117 (n + 9) post 32 [some (.ref 0), some (.int (nI f)), some (.int (nI k)), some (.int (nI i)), none, none, none] [] J L (zR1 q) := by
    intro j
    induction j with
    | zero =>
      intro i hi J hJ ho
      have hfJ : zFr tFw I J := zFr_tr hfr0 fun o x z => by rw [ho o (fun a => by subst a; cases z)]
      refine b117_32 (pk_le 21 i (fun _ => b117_56 ?_) (fun z => absurd z (by omega)) rfl rfl (by omega) (by omega))
      exact tryv 20 1 (by omega) (by omega) rfl J hfJ (fun o hh => ho o (by omega)) (fun s hs => hJ s (by omega)) (by rw [ho 0 (by decide)]; exact h340)
    | succ j ih =>
      intro i hi J hJ ho
      have ec : (nI i).toNatClampNeg = i := nI_clamp (by omega)
      have v : vp_in (nI i) 21 := vp_in_nI (by omega) (by decide)
      refine b117_32 (pk_le 21 i (fun z => absurd z (by omega)) (fun _ => And.intro v (And.intro v ?_)) rfl rfl (by omega) (by omega))
      have q2 := ih (i + 1) (by omega) (zup J 35 (nI i).toNatClampNeg (J 6 (nI i).toNatClampNeg)) (fun s hs => ?_) (fun o hh => by rw [zup_ne hh]; exact ho o hh)
      · rw [← nI_1] at q2
        exact q2
      · rw [ec, zup_eq]
        by_cases d : s = i
        · rw [if_pos d, ho 6 (by decide), d]
          exact h6I i (by omega)
        · rw [if_neg d]
          exact hJ s (by omega)
  exact keep 21 0 (by omega) I0 (fun _ hs => absurd hs (by omega)) (fun _ _ => rfl)
end
