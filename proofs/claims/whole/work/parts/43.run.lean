-- ===== the reference: games played and counted =====
def sEnc (en : Nat → Int32) (how : Nat) : Nat → Int32 := if how = 3 then fup (fup en 0 (en 0 + 1)) 3 (en 3 + 1) else fup en how (en how + 1)
def mE (en : Nat → Int32) (I : zI) : Prop := ∀ k, k < 4 → I 15 k = en k
abbrev zst : Type := sC × (Nat → Int32)
def sPl1 (g : zg) (fr : Nat → Nat) (rl : zrl) (ru : Option Nat) (F : zfo) (s : zst) : zst := ((sGm g fr rl ru F s.1).2.1, sEnc s.2 (sGm g fr rl ru F s.1).1)
def sRn (g : zg) (fr : Nat → Nat) (rl : zrl) (ru : Option Nat) (F : zfo) : Nat → zst → zst
  | 0, s => s
  | n + 1, s => sPl1 g fr rl ru F (sRn g fr rl ru F n s)
def sCm (g : zg) (fr : Nat → Nat) (rl : zrl) (ru : Option Nat) (F : zfo) : Nat → Nat → zst → Int32 × zst
  | 0, k, s => (if sOd g fr s.1 F (sFirst g) 0 = 0 then nI k else -2, s)
  | j + 1, k, s => if sOd g fr s.1 F (sFirst g) 0 = 0 then (nI k, s) else sCm g fr rl ru F j (k + 1) (sPl1 g fr rl ru F s)
/-- what playing stands on -/
def gW (g : zg) (fr : Nat → Nat) (nr : Nat) (rl : zrl) (ru : Option Nat) (f : Nat) (F : zfo) (c : sC) (I : zI) (L : zL) : Prop := mG g I ∧ mPos g I ∧ mF fr I ∧ mFo1 f F I L ∧ mRl nr rl ru I ∧ cIn g c ∧ mC c I ∧ I 0 35 = 0
/-- what the games' calls may touch -/
def tQ (o k : Nat) : Bool := tP o k || Nat.beq o 15 || Nat.beq o 24 || Nat.beq o 26 || (Nat.beq o 0 && (Nat.beq k 33 || Nat.beq k 34))
theorem tP_tQ {I I' : zI} (h : zFr tP I I') : zFr tQ I I' := fun o k z => h o k (by
  unfold tQ at z
  simp only [Bool.or_eq_false_iff] at z
  exact z.1.1.1.1)
theorem tT_tQ {I I' : zI} (h : zFr tT I I') : zFr tQ I I' := fun o k z => h o k (by
  unfold tQ at z
  simp only [Bool.or_eq_false_iff] at z
  exact z.2)
def tPC (o k : Nat) : Bool := tP o k || Nat.beq o 15
theorem tPC_tQ {I I' : zI} (h : zFr tPC I I') : zFr tQ I I' := fun o k z => h o k (by
  unfold tQ at z
  unfold tPC
  simp only [Bool.or_eq_false_iff] at z ⊢
  exact z.1.1.1)
theorem gW_Q {g : zg} {fr : Nat → Nat} {nr : Nat} {rl : zrl} {ru : Option Nat} {f : Nat} {F : zfo} {c c' : sC} {I I' : zI} {L L' : zL} (h : gW g fr nr rl ru f F c I L) (hf : zFr tQ I I') (hi : cIn g c') (hc : mC c' I') (hL : L' 13 = L 13) : gW g fr nr rl ru f F c' I' L' := by
  obtain ⟨a1, a2, a3, a4, a5, a6, a7, a8⟩ := h
  refine ⟨⟨a1.1, fun k hk => (hf 0 k ((by decide : ∀ k, k < 9 → tQ 0 k = false) k hk)).trans (a1.2 k hk)⟩, mPos_of a2 (zFr_row hf fun _ => rfl) (zFr_row hf fun _ => rfl) (zFr_row hf fun _ => rfl), fun s hs => ⟨(hf 6 s rfl).trans (a3 s hs).1, (a3 s hs).2⟩, ?_, mRl_of a5 (hf 0 18 rfl) (hf 0 22 rfl) (zFr_row hf fun _ => rfl) (zFr_row hf fun _ => rfl) (zFr_row hf fun _ => rfl), hi, hc, (hf 0 35 rfl).trans a8⟩
  unfold mFo1
  rw [zFr_row (o := 10) hf fun _ => rfl, zFr_row (o := 11) hf fun _ => rfl, zFr_row (o := 12) hf fun _ => rfl, zFr_row (o := 14) hf fun _ => rfl, hL]
  exact a4
theorem mC_Q {c : sC} {I I' : zI} (h : mC c I) (h5 : I' 5 = I 5) (h4 : I' 4 = I 4) (h0 : ∀ k, k = 14 ∨ k = 15 ∨ k = 16 → I' 0 k = I 0 k) : mC c I' := mC_of h h5 h4 (h0 14 (by omega)) (h0 15 (by omega)) (h0 16 (by omega))
theorem sGm_how {g : zg} {fr : Nat → Nat} {rl : zrl} {ru : Option Nat} {F : zfo} {c : sC} : (sGm g fr rl ru F c).1 ≤ 3 := by
  unfold sGm sHow
  dsimp only
  generalize sPlay g fr F 21 (sFirst g) c [] [] = S
  obtain ⟨p', c', ds, ts, em⟩ := S
  cases em with
  | some b => exact Nat.le_refl _
  | none =>
    have := sEnd_le g p'
    show sEnd g p' ≤ 3
    omega
theorem sRn_in {g : zg} {fr : Nat → Nat} {rl : zrl} {ru : Option Nat} {F : zfo} (hg : gOk g) {s : zst} (h : cIn g s.1) : ∀ n, cIn g (sRn g fr rl ru F n s).1
  | 0 => h
  | n + 1 => sGm_in hg (sRn_in hg h n)
section
variable {G : zG} {n : Nat} {I : zI} {L : zL} {q : zq} {post : zPo} {g : zg} {c : sC} {w : uW} {fr : Nat → Nat} {f nr nf : Nat} {F : zfo} {rl : zrl} {ru : Option Nat} {en : Nat → Int32}
theorem c_playCounted (hw : gW g fr nr rl ru f F c I L) (hf : f < 8) (hok : foOk F) (he : mE en I) (h : ∀ I' : zI, gW g fr nr rl ru f F (sGm g fr rl ru F c).2.1 I' L → mE (sEnc en (sGm g fr rl ru F c).1) I' → mT (sGm g fr rl ru F c).2.2 I' → zFr tPC I I' → post (some (.int (nI (sGm g fr rl ru F c).1))) I' L (zR1 q)) : zC G (n + 9) 90 [.ref 0, .int (nI f)] I L (zR1 q) post := by
  obtain ⟨a1, a2, a3, a4, a5, a6, a7, a8⟩ := id hw
  have hh := sGm_how (g := g) (fr := fr) (rl := rl) (ru := ru) (F := F) (c := c)
  refine zin0 rfl rfl rfl (b90_0 (c_playGame a1 a2 a3 hf hok a4 a5 a6 a7 a8 fun I1 hc1 ht1 hf1 => ?_))
  have hin := sGm_in a1.1 (fr := fr) (rl := rl) (ru := ru) (F := F) a6
  generalize sGm g fr rl ru F c = S at *
  obtain ⟨how, c', ts⟩ := S
  dsimp only at *
  have e15 : ∀ k, k < 4 → I1 15 k = en k := fun k hk => (hf1 15 k rfl).trans (he k hk)
  have keep : ∀ I2 : zI, (∀ o, o ≠ 15 → I2 o = I1 o) → mE (sEnc en how) I2 → post (some (.int (nI how))) I2 L (zR1 q) := by
    intro I2 ho hE
    have hfr2 : zFr tPC I I2 := fun o k z => by
      unfold tPC at z
      simp only [Bool.or_eq_false_iff] at z
      rw [ho o (fun a => by subst a; cases z.2), hf1 o k z.1]
    refine h I2 (gW_Q hw (tPC_tQ hfr2) hin (mC_Q hc1 (ho 5 (by decide)) (ho 4 (by decide)) (fun k _ => by rw [ho 0 (by decide)])) rfl) hE ⟨by rw [ho 0 (by decide)]; exact ht1.1, fun j x hx => by rw [ho 23 (by decide)]; exact ht1.2 j x hx⟩ hfr2
  refine pk_ne how 3 (fun z => b90_19 (b90_20 ?_)) (fun z => b90_20 ?_) rfl rfl (by omega) (by omega)
  · have ec : (nI how).toNatClampNeg = how := nI_clamp (by omega)
    have inb : vp_in (nI how) 4 := vp_in_nI (by omega) (by decide)
    refine And.intro ⟨rfl, rfl⟩ (And.intro inb (And.intro inb (pk_ne how 3 (fun _ => b90_40 ?_) (fun z2 => absurd z2 z) rfl rfl (by omega) (by omega))))
    refine keep _ (fun o ho => zup_ne ho) fun k hk => ?_
    rw [ec, zup_eq]
    unfold sEnc
    rw [if_neg z]
    unfold fup
    by_cases d : k = how
    · rw [if_pos d, if_pos d, e15 how (by omega)]
    · rw [if_neg d, if_neg d, e15 k hk]
  · subst z
    refine And.intro ⟨rfl, rfl⟩ (And.intro (vp_in_nI (n := 0) (by decide) (by decide)) (And.intro (vp_in_nI (n := 0) (by decide) (by decide)) (pk_ne 3 3 (fun z2 => absurd rfl z2) (fun _ => And.intro ⟨rfl, rfl⟩ (And.intro (vp_in_nI (n := 3) (by decide) (by decide)) (And.intro (vp_in_nI (n := 3) (by decide) (by decide)) (b90_40 ?_)))) rfl rfl (by omega) (by omega))))
    refine keep _ (fun o ho => by rw [zup_ne ho, zup_ne ho]) fun k hk => ?_
    show zup (zup I1 15 0 (I1 15 0 + 1)) 15 3 (zup I1 15 0 (I1 15 0 + 1) 15 3 + 1) 15 k = sEnc en 3 k
    rw [zup_eq, zup_eq, zup_eq]
    unfold sEnc fup
    rw [if_pos rfl, if_neg (by decide : ¬ (3 : Nat) = 0), e15 0 (by decide), e15 3 (by decide)]
    by_cases d : k = 3
    · rw [if_pos d, if_pos d]
    · rw [if_neg d, if_neg d]
      by_cases d2 : k = 0
      · rw [if_pos d2, if_pos d2]
      · rw [if_neg d2, if_neg d2, e15 k hk]
theorem gW_34 (hw : gW g fr nr rl ru f F c I L) : gW g fr nr rl ru f F c (zup I 0 34 0) L := gW_Q hw (zFr_up (zFr_0 _ _) rfl) hw.2.2.2.2.2.1 (mC_34 hw.2.2.2.2.2.2.1) rfl
theorem mE_34 (he : mE en I) : mE en (zup I 0 34 0) := fun k hk => by rw [zup_ne (by decide)]; exact he k hk
theorem sGm_len {g : zg} (hg : gOk g) {fr : Nat → Nat} {rl : zrl} {ru : Option Nat} {F : zfo} {c : sC} (h : cIn g c) : (sGm g fr rl ru F c).2.2.length ≤ 20 := by
  have hd := sDep_first g hg
  obtain ⟨a, -, -⟩ := sPlay_end hg (fr := fr) (F := F) 21 (sFirst g) c [] [] (by omega) (pInv_0 hg h)
  have := a.2.2.2.2
  show (sPlay g fr F 21 (sFirst g) c [] []).2.2.2.1.length ≤ 20
  omega
def tellL (ts : List Nat) : List Int64 := ts.map fun x => (nI x).toInt64
theorem c_play (hw : gW g fr nr rl ru f F c I L) (hf : f < nf) (h8 : nf ≤ 8) (h23 : I 0 23 = nI nf) (hok : foOk F) (he : mE en I) (h : ∀ (I' : zI) (L' : zL), gW g fr nr rl ru f F (sGm g fr rl ru F c).2.1 I' L' → mE (sEnc en (sGm g fr rl ru F c).1) I' → mRow (tellL (sGm g fr rl ru F c).2.2) I' L' → I' 0 34 = 0 → zFr tQ I I' → (∀ o, o ≠ 17 → L' o = L o) → post (some (.int (nI (sGm g fr rl ru F c).1))) I' L' (zR1 q)) : zC G (n + 10) 91 [.ref 0, .int (nI f)] I L (zR1 q) post := by
  refine zin0 rfl rfl rfl (b91_0 (c_isFoe1 hf h8 h23 (And.intro (fun _ => b91_15 ?_) (fun z => absurd z (by decide)))))
  have hlen := sGm_len hw.1.1 (fr := fr) (rl := rl) (ru := ru) (F := F) hw.2.2.2.2.2.1
  refine c_playCounted (gW_34 hw) (by omega) hok (mE_34 he) fun I1 hw1 he1 ht1 hf1 => ?_
  have hin1 := hw1.2.2.2.2.2.1
  generalize sGm g fr rl ru F c = S at *
  obtain ⟨how, c', ts⟩ := S
  dsimp only at *
  have hfr0 : zFr tQ I I1 := zFr_tr (zFr_up (zFr_0 _ _) rfl) (tPC_tQ hf1)
  have key : ∀ (us vs : List Nat) (i : Nat), vs ++ us = ts → vs.length = i → ∀ (I' : zI) (L' : zL), mRow (tellL vs) I' L' → (∀ o k, ¬ (o = 0 ∧ k = 33) → I' o k = I1 o k) → (∀ o, o ≠ 17 → L' o = L o) → zQ G 91 (n + 9) post 28 [some (.ref 0), some (.int (nI f)), some (.int (nI how)), some (.int (nI i))] [] I' L' (zR1 q) := by
    intro us
    induction us with
    | nil =>
      intro vs i hv hi I' L' hr hI hL
      rw [List.append_nil] at hv
      subst hv
      have e46 : I' 0 46 = nI vs.length := by rw [hI 0 46 (by omega)]; exact ht1.1
      refine b91_28 (pk_le vs.length i (fun _ => b91_53 ?_) (fun z => absurd z (by omega)) e46 rfl (by omega) (by omega))
      have hfr2 : zFr tQ I I' := zFr_tr hfr0 fun o k z => hI o k fun ⟨a, b⟩ => by subst a b; cases z
      refine h I' L' (gW_Q hw hfr2 hin1 (mC_Q hw1.2.2.2.2.2.2.1 (funext fun k => hI 5 k (by omega)) (funext fun k => hI 4 k (by omega)) (fun k hk => hI 0 k (by omega))) (hL 13 (by decide))) (fun k hk => by rw [hI 15 k (by omega)]; exact he1 k hk) hr ?_ hfr2 hL
      rw [hI 0 34 (by omega)]
      rw [hf1 0 34 rfl]
      rfl
    | cons u us ih =>
      intro vs i hv hi I' L' hr hI hL
      have hl : vs.length + (us.length + 1) = ts.length := by rw [← hv, List.length_append]; rfl
      have e46 : I' 0 46 = nI ts.length := by rw [hI 0 46 (by omega)]; exact ht1.1
      have eu : I' 23 (nI i).toNatClampNeg = nI u := by
        rw [nI_clamp (by omega), hI 23 i (by omega)]
        refine ht1.2 i u ?_
        rw [← hv, List.getElem?_append_right (by omega), hi, Nat.sub_self]
        rfl
      refine b91_28 (pk_le ts.length i (fun z => absurd z (by omega)) (fun _ => And.intro (vp_in_nI (by omega) (by decide)) ?_) e46 rfl (by omega) (by omega))
      show zC G (n + 9) 4 [.ref 0, .long (I' 23 (nI i).toNatClampNeg).toInt64] I' L' (zR1 q) _
      rw [eu]
      refine c_tell hr (by unfold tellL; rw [List.length_map]; omega) fun I2 L2 hr2 hf2 hl2 => ?_
      have qq := ih (vs ++ [u]) (i + 1) (by rw [List.append_assoc]; exact hv) (by rw [snoc_len, hi]) I2 L2 (by unfold tellL at *; rw [List.map_append]; exact hr2) (fun o k z => (hf2 o k z).trans (hI o k z)) (fun o ho => (hl2 o ho).trans (hL o ho))
      rw [← nI_1] at qq
      exact qq
  exact key ts [] 0 rfl rfl (zup I1 0 33 0) L (mRow_0 zup_self) (fun o k z => by
    unfold zup
    by_cases d : o = 0
    · rw [if_pos d, if_neg (fun a => z ⟨d, a⟩)]
    · rw [if_neg d]) (fun _ _ => rfl)
theorem c_play0 {x : Int32} (h8 : nf ≤ 8) (h23 : I 0 23 = nI nf) (hx : xOut x nf) (h : post (some (.int (-1))) (zup I 0 34 0) L (zR1 q)) : zC G (n + 3) 91 [.ref 0, .int x] I L (zR1 q) post := zin0 rfl rfl rfl (b91_0 (c_isFoe0 h8 h23 hx (And.intro (fun z => absurd rfl z) (fun _ => h))))
theorem c_in0N {x : Int32} {m : Nat} {hi : Int32} {R : zR} (hh : hi = nI m) (hm : m < 2 ^ 20) (h1 : ∀ k, x = nI k → k ≤ m → post (some (.int 1)) I L R) (h0 : xOut x (m + 1) → post (some (.int 0)) I L R) : zC G (n + 1) 2 [.int x, .int 0, .int hi] I L R post := by
  subst hh
  rcases pk_ix x (n := m + 1) (by omega) with c | c | ⟨k, hk, rfl⟩
  · refine c_in ?_
    rw [← nI_pred m, in_out (by omega) (Or.inl c)]
    exact h0 (Or.inl c)
  · refine c_in ?_
    rw [← nI_pred m, in_out (by omega) (Or.inr c)]
    exact h0 (Or.inr c)
  · refine c_inN (x := k) (lo := 0) (hi := m) rfl rfl rfl (by omega) (by omega) (by omega) ?_
    rw [decide_eq_true (by omega)]
    exact h1 k rfl (by omega)
theorem c_run0 {x y : Int32} (h8 : nf ≤ 8) (h23 : I 0 23 = nI nf) (hx : xOut x nf) (h : post (some (.int (-1))) (zup I 0 34 0) L (zR1 q)) : zC G (n + 3) 92 [.ref 0, .int x, .int y] I L (zR1 q) post := zin0 rfl rfl rfl (b92_0 (c_isFoe0 h8 h23 hx (And.intro (fun _ => b92_24 h) (fun z => absurd rfl z))))
theorem c_run {y : Int32} (hw : gW g fr nr rl ru f F c I L) (hf : f < nf) (h8 : nf ≤ 8) (h23 : I 0 23 = nI nf) (hok : foOk F) (he : mE en I) (h1 : ∀ k, y = nI k → k ≤ 200 → ∀ (I' : zI) (L' : zL), gW g fr nr rl ru f F (sRn g fr rl ru F k (c, en)).1 I' L' → mE (sRn g fr rl ru F k (c, en)).2 I' → mRow [((sRn g fr rl ru F k (c, en)).2 1 - en 1).toInt64, ((sRn g fr rl ru F k (c, en)).2 0 - en 0).toInt64, ((sRn g fr rl ru F k (c, en)).2 3 - en 3).toInt64] I' L' → I' 0 34 = 0 → zFr tQ I I' → (∀ o, o ≠ 17 → L' o = L o) → post (some (.int ((sRn g fr rl ru F k (c, en)).2 2 - en 2))) I' L' (zR1 q)) (h0 : xOut y 201 → post (some (.int (-1))) (zup I 0 34 0) L (zR1 q)) : zC G (n + 10) 92 [.ref 0, .int (nI f), .int y] I L (zR1 q) post := by
  refine zin0 rfl rfl rfl (b92_0 (c_isFoe1 hf h8 h23 (And.intro (fun z => absurd z (by decide)) (fun _ => c_in0N (m := 200) rfl (by omega) (fun k hk hk2 => ?_) (fun ho => And.intro (fun z => absurd rfl z) (fun _ => b92_24 (h0 ho)))))))
  subst hk
  have qq := h1 k rfl hk2
  refine And.intro (fun _ => b92_26 ?_) (fun z => absurd z (by decide))
  -- the games
  have games : ∀ j i : Nat, i + j = k → ∀ I' : zI, gW g fr nr rl ru f F (sRn g fr rl ru F i (c, en)).1 I' L → mE (sRn g fr rl ru F i (c, en)).2 I' → (∀ x, x < 4 → I' 24 x = en x) → I' 0 34 = 0 → zFr tQ I I' → zQ G 92 (n + 9) post 53 [some (.ref 0), some (.int (nI f)), some (.int (nI k)), some (.int (nI i))] [] I' L (zR1 q) := by
    intro j
    induction j with
    | zero =>
      intro i hi I' hw' he' h24 h34 hf'
      have e : i = k := by omega
      subst e
      have hin' := hw'.2.2.2.2.2.1
      have hc' := hw'.2.2.2.2.2.2.1
      generalize sRn g fr rl ru F i (c, en) = S at *
      obtain ⟨c', en'⟩ := S
      dsimp only at *
      have a0 : ∀ x, x < 4 → zup I' 0 33 0 15 x = en' x := fun x hx => by rw [zup_ne (by decide)]; exact he' x hx
      have a1 : ∀ x, x < 4 → zup I' 0 33 0 24 x = en x := fun x hx => by rw [zup_ne (by decide)]; exact h24 x hx
      have v : ∀ x, x < 4 → vp_in (nI x) 4 := fun x hx => vp_in_nI hx (by decide)
      refine b92_53 (pk_le i i (fun _ => b92_70 (And.intro (v 1 (by decide)) (And.intro (v 1 (by decide)) ?_))) (fun z => absurd z (by omega)) rfl rfl (by omega) (by omega))
      show zC G (n + 9) 4 [.ref 0, .long (zup I' 0 33 0 15 1 - zup I' 0 33 0 24 1).toInt64] (zup I' 0 33 0) L (zR1 q) _
      rw [a0 1 (by decide), a1 1 (by decide)]
      refine c_tell (l := []) (mRow_0 zup_self) (by show 0 < 32; omega) fun I1 L1 hr1 hf1 hl1 => And.intro (v 0 (by decide)) (And.intro (v 0 (by decide)) ?_)
      show zC G (n + 9) 4 [.ref 0, .long (I1 15 0 - I1 24 0).toInt64] I1 L1 (zR1 q) _
      rw [hf1 15 0 (by omega), hf1 24 0 (by omega), a0 0 (by decide), a1 0 (by decide)]
      refine c_tell hr1 (by show 1 < 32; omega) fun I2 L2 hr2 hf2 hl2 => And.intro (v 3 (by decide)) (And.intro (v 3 (by decide)) ?_)
      show zC G (n + 9) 4 [.ref 0, .long (I2 15 3 - I2 24 3).toInt64] I2 L2 (zR1 q) _
      rw [hf2 15 3 (by omega), hf2 24 3 (by omega), hf1 15 3 (by omega), hf1 24 3 (by omega), a0 3 (by decide), a1 3 (by decide)]
      refine c_tell hr2 (by show 2 < 32; omega) fun I3 L3 hr3 hf3 hl3 => And.intro (v 2 (by decide)) (And.intro (v 2 (by decide)) ?_)
      have hI : ∀ o x, ¬ (o = 0 ∧ x = 33) → I3 o x = I' o x := fun o x z => by
        rw [hf3 o x z, hf2 o x z, hf1 o x z]
        unfold zup
        by_cases d : o = 0
        · rw [if_pos d, if_neg (fun a => z ⟨d, a⟩)]
        · rw [if_neg d]
      show post (some (.int (I3 15 2 - I3 24 2))) I3 L3 (zR1 q)
      rw [hI 15 2 (by omega), hI 24 2 (by omega), he' 2 (by decide), h24 2 (by decide)]
      have hfr2 : zFr tQ I I3 := zFr_tr hf' fun o x z => hI o x fun ⟨a, b⟩ => by subst a b; cases z
      have hL : ∀ o, o ≠ 17 → L3 o = L o := fun o ho => (hl3 o ho).trans ((hl2 o ho).trans (hl1 o ho))
      exact qq I3 L3 (gW_Q hw hfr2 hin' (mC_Q hc' (funext fun x => hI 5 x (by omega)) (funext fun x => hI 4 x (by omega)) (fun x hx => hI 0 x (by omega))) (hL 13 (by decide))) (fun x hx => by rw [hI 15 x (by omega)]; exact he' x hx) hr3 (by rw [hI 0 34 (by omega)]; exact h34) hfr2 hL
    | succ j ih =>
      intro i hi I' hw' he' h24 h34 hf'
      refine b92_53 (pk_le k i (fun z => absurd z (by omega)) (fun _ => ?_) rfl rfl (by omega) (by omega))
      refine c_playCounted hw' (by omega) hok he' fun I1 hw1 he1 _ hf1 => And.intro rfl ?_
      have q2 := ih (i + 1) (by omega) I1 hw1 he1 (fun x hx => by rw [hf1 24 x rfl]; exact h24 x hx) (by rw [hf1 0 34 rfl]; exact h34) (zFr_tr hf' (tPC_tQ hf1))
      rw [← nI_1] at q2
      exact q2
  have copy : ∀ j i : Nat, i + j = 4 → ∀ I' : zI, (∀ x, x < i → I' 24 x = en x) → (∀ o, o ≠ 24 → I' o = zup I 0 34 0 o) → zQ G 92 (n + 9) post 28 [some (.ref 0), some (.int (nI f)), some (.int (nI k)), some (.int (nI i))] [] I' L (zR1 q) := by
    intro j
    induction j with
    | zero =>
      intro i hi I' h24 ho
      have e : i = 4 := by omega
      subst e
      have hfr2 : zFr tQ I I' := zFr_tr (zFr_up (zFr_0 _ _) rfl) fun o x z => by rw [ho o (fun a => by subst a; cases z)]
      refine b92_28 (pk_le 4 4 (fun _ => b92_51 ?_) (fun z => absurd z (by omega)) rfl rfl (by omega) (by omega))
      refine games k 0 (by omega) I' (gW_Q hw hfr2 hw.2.2.2.2.2.1 (mC_Q (mC_34 hw.2.2.2.2.2.2.1) (ho 5 (by decide)) (ho 4 (by decide)) (fun x _ => by rw [ho 0 (by decide)])) rfl) (fun x hx => ?_) h24 ?_ hfr2
      · rw [ho 15 (by decide), zup_ne (by decide)]
        exact he x hx
      · rw [ho 0 (by decide)]
        rfl
    | succ j ih =>
      intro i hi I' h24 ho
      have ec : (nI i).toNatClampNeg = i := nI_clamp (by omega)
      have v : vp_in (nI i) 4 := vp_in_nI (by omega) (by decide)
      refine b92_28 (pk_le 4 i (fun z => absurd z (by omega)) (fun _ => And.intro v (And.intro ?_ ?_)) rfl rfl (by omega) (by omega))
      · exact vp_in_nI (by omega) (by decide)
      have q2 := ih (i + 1) (by omega) (zup I' 24 (nI i).toNatClampNeg (I' 15 (nI i).toNatClampNeg)) (fun x hx => ?_) (fun o hh => by rw [zup_ne hh]; exact ho o hh)
      · rw [← nI_1] at q2
        exact q2
      · rw [ec, zup_eq]
        by_cases d : x = i
        · rw [if_pos d, ho 15 (by decide), zup_ne (by decide), d]
          exact he i (by omega)
        · rw [if_neg d]
          exact h24 x (by omega)
  exact copy 4 0 (by omega) (zup I 0 34 0) (fun _ hx => absurd hx (by omega)) (fun _ _ => rfl)
theorem c_come0 {x y : Int32} (h8 : nf ≤ 8) (h23 : I 0 23 = nI nf) (hx : xOut x nf) (h : post (some (.int (-1))) (zup I 0 34 0) L (zR1 q)) : zC G (n + 3) 99 [.ref 0, .int x, .int y] I L (zR1 q) post := zin0 rfl rfl rfl (b99_0 (c_isFoe0 h8 h23 hx (And.intro (fun _ => b99_23 h) (fun z => absurd rfl z))))
theorem c_come {y : Int32} (hw : gW g fr nr rl ru f F c I L) (hf : f < nf) (h8 : nf ≤ 8) (h23 : I 0 23 = nI nf) (hok : foOk F) (he : mE en I) (h1 : ∀ k, y = nI k → k ≤ 100 → ∀ (I' : zI) (L' : zL), gW g fr nr rl ru f F (sCm g fr rl ru F k 0 (c, en)).2.1 I' L' → mE (sCm g fr rl ru F k 0 (c, en)).2.2 I' → I' 0 34 = 0 → zFr tQ I I' → (∀ o, o ≠ 25 → o ≠ 27 → o ≠ 28 → L' o = L o) → post (some (.int (sCm g fr rl ru F k 0 (c, en)).1)) I' L' (zR1 q)) (h0 : xOut y 101 → post (some (.int (-1))) (zup I 0 34 0) L (zR1 q)) : zC G (n + 74) 99 [.ref 0, .int (nI f), .int y] I L (zR1 q) post := by
  have hfl := sR_lt hw.1.1 (sR_first g)
  refine zin0 rfl rfl rfl (b99_0 (c_isFoe1 hf h8 h23 (And.intro (fun z => absurd z (by decide)) (fun _ => c_in0N (m := 100) rfl (by omega) (fun k hk hk2 => ?_) (fun ho => And.intro (fun z => absurd rfl z) (fun _ => b99_23 (h0 ho)))))))
  subst hk
  have qq := h1 k rfl hk2
  refine And.intro (fun _ => b99_25 ?_) (fun z => absurd z (by decide))
  have key : ∀ (j i : Nat) (s : zst) (I' : zI) (L' : zL), i + j = k → sCm g fr rl ru F j i s = sCm g fr rl ru F k 0 (c, en) → gW g fr nr rl ru f F s.1 I' L' → mE s.2 I' → I' 0 34 = 0 → zFr tQ I I' → (∀ o, o ≠ 25 → o ≠ 27 → o ≠ 28 → L' o = L o) → zQ G 99 (n + 73) post 27 [some (.ref 0), some (.int (nI f)), some (.int (nI k)), some (.int (nI i))] [] I' L' (zR1 q) := by
    intro j
    induction j with
    | zero =>
      intro i s I' L' hi hs hw' he' h34 hf' hL
      have e : i = k := by omega
      subst e
      obtain ⟨a1, a2, a3, a4, a5, a6, a7, a8⟩ := id hw'
      refine b99_27 (pk_lt i i (fun z => absurd z (by omega)) (fun _ => ?_) rfl rfl (by omega) (by omega))
      refine c_askOdds (fr := fr) (c := s.1) (F := F) ⟨a1, a2, a3, a7, a4⟩ a6.1 (by omega) hok fun I1 L1 y1 y2 y3 => ?_
      have e0 : nI (3 * sFirst g) + 0 = nI (3 * sFirst g + 0) := by rw [show (0 : Int32) = nI 0 from rfl, nI_add]
      have ev : L1 25 (nI (3 * sFirst g) + 0).toNatClampNeg = lN (sOd g fr s.1 F (sFirst g) 0) := by rw [e0, nI_clamp (by omega)]; exact y1 0 (by omega)
      have hle := sOd_le g fr s.1 F (sFirst g) 0
      have hf1 : zFr tQ I I1 := zFr_tr hf' fun o x z => by rw [y2 o (fun a => by subst a; cases z)]
      have hw1 : gW g fr nr rl ru f F s.1 I1 L1 := gW_Q hw hf1 a6 (mC_Q a7 (y2 5 (by decide)) (y2 4 (by decide)) (fun x _ => by rw [y2 0 (by decide)])) ((y3 13 (by decide) (by decide) (by decide)).trans (hL 13 (by decide) (by decide) (by decide)))
      have he1 : mE s.2 I1 := fun x hx => by rw [y2 15 (by decide)]; exact he' x hx
      have h34' : I1 0 34 = 0 := by rw [y2 0 (by decide)]; exact h34
      have hL1 : ∀ o, o ≠ 25 → o ≠ 27 → o ≠ 28 → L1 o = L o := fun o b1 b2 b3 => (y3 o b1 b2 b3).trans (hL o b1 b2 b3)
      refine And.intro (by rw [e0]; exact vp_in_nI (by omega) (by decide)) ?_
      show (¬ lg_cmp (L1 25 (nI (3 * sFirst g) + 0).toNatClampNeg) 0 = 0 → _) ∧ (lg_cmp (L1 25 (nI (3 * sFirst g) + 0).toNatClampNeg) 0 = 0 → _)
      rw [ev]
      rw [sCm] at hs
      rw [← hs] at qq
      dsimp only at qq
      by_cases z : sOd g fr s.1 F (sFirst g) 0 = 0
      · rw [if_pos z] at qq
        refine And.intro (fun z2 => absurd ((lg_cmp_eq _ _).mpr (by rw [z]; rfl)) z2) (fun _ => qq I1 L1 hw1 he1 h34' hf1 hL1)
      · rw [if_neg z] at qq
        refine And.intro (fun _ => b99_51 (pk_le i i (fun _ => b99_62 (b99_27 (pk_lt i (i + 1) (fun _ => b99_68 (qq I1 L1 hw1 he1 h34' hf1 hL1)) (fun z2 => absurd z2 (by omega)) rfl (nI_1 i) (by omega) (by omega)))) (fun z2 => absurd z2 (by omega)) rfl rfl (by omega) (by omega))) (fun z2 => ?_)
        exact absurd ((pk_lEQ (b := 0) (by omega) (by omega)).mp ((lg_cmp_eq _ _).mp z2)) z
    | succ j ih =>
      intro i s I' L' hi hs hw' he' h34 hf' hL
      obtain ⟨a1, a2, a3, a4, a5, a6, a7, a8⟩ := id hw'
      refine b99_27 (pk_lt k i (fun z => absurd z (by omega)) (fun _ => ?_) rfl rfl (by omega) (by omega))
      refine c_askOdds (fr := fr) (c := s.1) (F := F) ⟨a1, a2, a3, a7, a4⟩ a6.1 (by omega) hok fun I1 L1 y1 y2 y3 => ?_
      have e0 : nI (3 * sFirst g) + 0 = nI (3 * sFirst g + 0) := by rw [show (0 : Int32) = nI 0 from rfl, nI_add]
      have ev : L1 25 (nI (3 * sFirst g) + 0).toNatClampNeg = lN (sOd g fr s.1 F (sFirst g) 0) := by rw [e0, nI_clamp (by omega)]; exact y1 0 (by omega)
      have hle := sOd_le g fr s.1 F (sFirst g) 0
      have hf1 : zFr tQ I I1 := zFr_tr hf' fun o x z => by rw [y2 o (fun a => by subst a; cases z)]
      have hw1 : gW g fr nr rl ru f F s.1 I1 L1 := gW_Q hw hf1 a6 (mC_Q a7 (y2 5 (by decide)) (y2 4 (by decide)) (fun x _ => by rw [y2 0 (by decide)])) ((y3 13 (by decide) (by decide) (by decide)).trans (hL 13 (by decide) (by decide) (by decide)))
      have he1 : mE s.2 I1 := fun x hx => by rw [y2 15 (by decide)]; exact he' x hx
      have h34' : I1 0 34 = 0 := by rw [y2 0 (by decide)]; exact h34
      have hL1 : ∀ o, o ≠ 25 → o ≠ 27 → o ≠ 28 → L1 o = L o := fun o b1 b2 b3 => (y3 o b1 b2 b3).trans (hL o b1 b2 b3)
      refine And.intro (by rw [e0]; exact vp_in_nI (by omega) (by decide)) ?_
      show (¬ lg_cmp (L1 25 (nI (3 * sFirst g) + 0).toNatClampNeg) 0 = 0 → _) ∧ (lg_cmp (L1 25 (nI (3 * sFirst g) + 0).toNatClampNeg) 0 = 0 → _)
      rw [ev]
      rw [sCm] at hs
      by_cases z : sOd g fr s.1 F (sFirst g) 0 = 0
      · rw [if_pos z] at hs
        rw [← hs] at qq
        refine And.intro (fun z2 => absurd ((lg_cmp_eq _ _).mpr (by rw [z]; rfl)) z2) (fun _ => qq I1 L1 hw1 he1 h34' hf1 hL1)
      · rw [if_neg z] at hs
        refine And.intro (fun _ => b99_51 (pk_le k i (fun z2 => absurd z2 (by omega)) (fun _ => ?_) rfl rfl (by omega) (by omega))) (fun z2 => ?_)
        · refine c_playCounted hw1 (by omega) hok he1 fun I2 hw2 he2 _ hf2 => And.intro rfl (b99_62 ?_)
          have q2 := ih (i + 1) (sPl1 g fr rl ru F s) I2 L1 (by omega) hs hw2 he2 (by rw [hf2 0 34 rfl]; exact h34') (zFr_tr hf1 (tPC_tQ hf2)) hL1
          rw [← nI_1] at q2
          exact q2
        · exact absurd ((pk_lEQ (b := 0) (by omega) (by omega)).mp ((lg_cmp_eq _ _).mp z2)) z
  exact key k 0 (c, en) (zup I 0 34 0) L (by omega) rfl (gW_34 hw) (mE_34 he) rfl (zFr_up (zFr_0 _ _) rfl) (fun _ _ _ _ => rfl)
end
