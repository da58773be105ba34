-- ===== the class: boxes, laid =====
theorem sCB_lt {f : Nat → Bool} {b : Nat} (hb : f b = true) : ∀ n, b < n → sCB f b < sCB f n
  | 0, h => absurd h (Nat.not_lt_zero _)
  | n + 1, h => by
    rw [sCB]
    by_cases c : b = n
    · subst c
      rw [if_pos hb]
      omega
    · have := sCB_lt hb n (by omega)
      omega
theorem sCB_len {f : Nat → Bool} {n m : Nat} (h : n ≤ m) : sCB f n ≤ sCB f m := by
  obtain ⟨k, rfl⟩ := Nat.exists_eq_add_of_le h
  clear h
  induction k with
  | zero => exact Nat.le_refl _
  | succ k ih =>
    show _ ≤ sCB f (n + k) + _
    omega
theorem sCB_more {f : Nat → Bool} {n : Nat} : ∀ k, (∀ x, n ≤ x → f x = false) → sCB f (n + k) = sCB f n
  | 0, _ => rfl
  | k + 1, h => by
    show sCB f (n + k) + (if f (n + k) = true then 1 else 0) = _
    rw [sCB_more k h, h (n + k) (by omega)]
    rfl
theorem sTO_first (g : zg) (p : Nat) : ∀ n t, t < sTO g p n → sTP g p (sTO g p n) < sTP g p t
  | 0, t, h => absurd h (Nat.not_lt_zero _)
  | n + 1, t, h => by
    have ih := sTO_first g p n
    have hmin := sTO_min g p n
    rw [sTO] at h ⊢
    by_cases c : n = 0
    · rw [if_pos c] at h
      exact absurd h (Nat.not_lt_zero _)
    · rw [if_neg c] at h ⊢
      by_cases d : sTP g p n < sTP g p (sTO g p n)
      · rw [if_pos d] at h ⊢
        exact Nat.lt_of_lt_of_le d (hmin t h)
      · rw [if_neg d] at h ⊢
        exact ih t h
theorem sTurnOf_min {g : zg} {p t : Nat} (h : sTP g p t = sBox g p) : sTurnOf g p ≤ t := by
  rcases Nat.lt_or_ge t (sTurnOf g p) with c | c
  · have := sTO_first g p _ t c
    have e : sTP g p (sTO g p (sTurns g)) = sBox g p := rfl
    omega
  · exact c
/-- the number of a box among those of its side -/
noncomputable def sSl (g : zg) (s p : Nat) : Nat := sCB (sBxB g s) p
def sSt (g : zg) (b : Nat) : Nat := sFB (fun t => decide (t < sTurns g) && decide (sTP g b t = b)) 8
def sKd (g : zg) (b : Nat) : Nat := sFB (sHas g b) 9
theorem sKd_lt (g : zg) (b : Nat) : sKd g b < 512 := sFB_lt _ 9
theorem sSl_lt {g : zg} (hg : gOk g) {s b : Nat} (hs : s ≤ 1) (h : sBxB g s b = true) : sSl g s b < 2423 := by
  have h1 := sR_lt hg (sBxB_t.mp h).1
  have := sCB_lt h 19683 h1
  have := sBxB_n hg hs
  unfold sSl
  omega
theorem sSl_inj {g : zg} {s b b' : Nat} (h : sBxB g s b = true) (h' : sBxB g s b' = true) (e : sSl g s b = sSl g s b') : b = b' := by
  unfold sSl at e
  rcases Nat.lt_trichotomy b b' with c | c | c
  · have := sCB_lt h b' c
    omega
  · exact c
  · have := sCB_lt h' b c
    omega
/-- the least of the ways back among the first turns that lead the box to x -/
def kMt (g : zg) (b x : Nat) : Nat → Nat
  | 0 => 99
  | t + 1 => if sTP g b t = x then min (kMt g b x t) (tInv t) else kMt g b x t
def kHit (g : zg) (b x t : Nat) : Prop := ∃ t', t' < t ∧ sTP g b t' = x
theorem kHit_s {g : zg} {b x t : Nat} : kHit g b x (t + 1) ↔ kHit g b x t ∨ sTP g b t = x := by
  constructor
  · rintro ⟨t', h1, h2⟩
    by_cases c : t' = t
    · subst c
      exact .inr h2
    · exact .inl ⟨t', by omega, h2⟩
  · rintro (⟨t', h1, h2⟩ | h)
    · exact ⟨t', by omega, h2⟩
    · exact ⟨t, by omega, h⟩
theorem kMt_no {g : zg} {b x : Nat} : ∀ t, ¬ kHit g b x t → kMt g b x t = 99
  | 0, _ => rfl
  | t + 1, h => by
    rw [kMt, if_neg (fun z => h (kHit_s.mpr (.inr z))), kMt_no t (fun z => h (kHit_s.mpr (.inl z)))]
theorem kMt_le {g : zg} {b x : Nat} : ∀ n t, t < n → sTP g b t = x → kMt g b x n ≤ tInv t
  | 0, _, h, _ => absurd h (Nat.not_lt_zero _)
  | n + 1, t, h, e => by
    rw [kMt]
    by_cases c : t = n
    · subst c
      rw [if_pos e]
      exact Nat.min_le_right _ _
    · have := kMt_le n t (by omega) e
      split <;> omega
theorem kMt_ge {g : zg} {b x y : Nat} (hy : y ≤ 99) : ∀ n, (∀ t, t < n → sTP g b t = x → y ≤ tInv t) → y ≤ kMt g b x n
  | 0, _ => hy
  | n + 1, h => by
    have ih := kMt_ge hy n (fun t ht => h t (by omega))
    rw [kMt]
    split
    · rename_i c
      have := h n (by omega) c
      omega
    · exact ih
theorem kMt_end {g : zg} (hg : gOk g) {b x : Nat} (hb : sR g b) (hx : sR g x) (e : sBox g x = b) : kMt g b x (sTurns g) = sTurnOf g x := by
  have hts := sTurns_le g
  have ht := sTurnOf_lt g x
  have e0 : sTP g x (sTurnOf g x) = b := e
  apply Nat.le_antisymm
  · have h1 := gTP_inv hg ht hx
    rw [e0] at h1
    have h2 := kMt_le (sTurns g) (tInv (sTurnOf g x)) (tInv_turns ht) h1
    rw [(tMul_inv (sTurnOf g x) (by omega)).2.2.2.2] at h2
    exact h2
  · refine kMt_ge (by omega) _ fun t ht' he => ?_
    have h1 := gTP_inv hg ht' hb
    rw [he] at h1
    exact sTurnOf_min (h1.trans e.symm)
theorem kHit_box {g : zg} (hg : gOk g) {b x : Nat} (hb : sR g b) (hbb : sBox g b = b) : kHit g b x (sTurns g) ↔ sR g x ∧ sBox g x = b := by
  constructor
  · rintro ⟨t, ht, rfl⟩
    exact ⟨(gR_turn hg ht hb).1, (sBox_turn hg ht hb).trans hbb⟩
  · rintro ⟨hx, e⟩
    have ht := sTurnOf_lt g x
    have h1 := gTP_inv hg ht hx
    have e0 : sTP g x (sTurnOf g x) = b := e
    rw [e0] at h1
    exact ⟨_, tInv_turns ht, h1⟩
/-- the boxes below p, laid -/
def kLi (g : zg) (p : Nat) (I : zI) : Prop := (∀ x, x < 19683 → (sR g x → sWork g x < 2 → sBox g x < p → I 52 x = nI (sBox g x) ∧ I 54 x = nI (2 * sSl g (sWork g x) (sBox g x) + sWork g x) ∧ I 53 x = nI (sTurnOf g x)) ∧ (¬ (sR g x ∧ sWork g x < 2 ∧ sBox g x < p) → I 52 x = -1 ∧ I 54 x = -1)) ∧ (∀ b, b < p → sR g b → sWork g b < 2 → sBox g b = b → I 55 b = nI (sSt g b) ∧ I 56 b = nI (sKd g b) ∧ I 59 (2423 * sWork g b + sSl g (sWork g b) b) = nI b) ∧ ∀ s, s ≤ 1 → I 60 s = nI (sSl g s p)
theorem kLi_of {g : zg} {p : Nat} {I I' : zI} (h : kLi g p I) (h2 : I' 52 = I 52) (h3 : I' 53 = I 53) (h4 : I' 54 = I 54) (h5 : I' 55 = I 55) (h6 : I' 56 = I 56) (h9 : I' 59 = I 59) (h0 : I' 60 = I 60) : kLi g p I' := by
  unfold kLi
  rw [h2, h3, h4, h5, h6, h9, h0]
  exact h
def tMB (o k : Nat) : Bool := Nat.beq o 52 || Nat.beq o 53 || Nat.beq o 54 || Nat.beq o 55 || Nat.beq o 56 || Nat.beq o 59 || Nat.beq o 60 || Nat.beq o 61
def tML (o k : Nat) : Bool := Nat.beq o 52 || Nat.beq o 53 || Nat.beq o 54 || Nat.beq o 55
theorem tML_MB {I I' : zI} (h : zFr tML I I') : zFr tMB I I' := fun o k z => h o k (by
  unfold tMB at z
  simp only [Bool.or_eq_false_iff] at z
  unfold tML
  rw [z.1.1.1.1.1.1.1, z.1.1.1.1.1.1.2, z.1.1.1.1.1.2, z.1.1.1.1.2]
  rfl)
section
variable {G : zG} {n : Nat} {I : zI} {L : zL} {R : zR} {q : zq} {post : zPo} {g : zg}
theorem k_leastLike {b m : Nat} (hg : gOk g) (hl : kLt g I) (h55 : I 55 b = nI (sSt g b)) (hb : b < 19683) (hm : m < sMM g) (h : post (some (.int (nI (sLeast g b m)))) I L (zR1 q)) : zC G (n + 2) 194 [.ref 51, .int (nI b), .int (nI m)] I L (zR1 q) post := by
  have hts := sTurns_le g
  have hmm := sMM_pos hg
  have hst : sSt g b < 256 := sFB_lt _ 8
  have key : ∀ j t, t + j = sTurns g → 1 ≤ t → zQ G 194 (n + 1) post 5 [some (.ref 51), some (.int (nI b)), some (.int (nI m)), some (.int (nI (sLs g b m t))), some (.int (nI t))] [] I L (zR1 q) := by
    intro j
    induction j with
    | zero =>
      intro t ht _
      refine b194_5 ?_
      show (I 51 13 ≤ nI t → _) ∧ (¬ I 51 13 ≤ nI t → _)
      rw [hl.1]
      refine pk_le (sTurns g) t (fun _ => b194_51 ?_) (fun z => absurd z (by omega)) rfl rfl (by omega) (by omega)
      rw [show t = sTurns g by omega]
      exact h
    | succ j ih =>
      intro t ht h1
      have e1 : nI t * 9 + nI m = nI (9 * t + m) := by rw [show (9 : Int32) = nI 9 from rfl, pk_mul, nI_add, Nat.mul_comm]
      have hls := sLs_lt (b := b) hg hm t (by omega)
      refine b194_5 ?_
      show (I 51 13 ≤ nI t → _) ∧ (¬ I 51 13 ≤ nI t → _)
      rw [hl.1]
      refine pk_le (sTurns g) t (fun z => absurd z (by omega)) (fun _ => And.intro (vp_in_nI hb (by decide)) ?_) rfl rfl (by omega) (by omega)
      rw [nI_clamp (by omega), h55]
      refine k_holds rfl (by omega) rfl (by omega) ?_
      unfold sSt
      rw [sFB_tb, decide_eq_true (show t < 8 by omega), decide_eq_true (show t < sTurns g by omega), Bool.true_and, Bool.true_and]
      refine zbo_eq (fun c => b194_45 ?_) (fun c => And.intro ?_ (b194_45 ?_))
      · have qq := ih (t + 1) (by omega) (by omega)
        rw [sLs, if_neg (by omega), if_neg (of_decide_eq_false c), ← nI_1] at qq
        exact qq
      · rw [e1]
        exact vp_in_nI (by omega) (by decide)
      · rw [e1, nI_clamp (by omega), (hl.2 t m (by omega) (by omega)).1]
        have el : kLed g t m = sTd g m t := by
          rw [kLed_led hg (by omega) hm]
          unfold sLed
          rw [if_neg (by omega)]
        have k9 := kLed_lt hg (t := t) (show m < 9 by omega)
        rw [el] at k9 ⊢
        rw [nI_min (by omega) (by omega)]
        have qq := ih (t + 1) (by omega) (by omega)
        rw [sLs, if_neg (by omega), if_pos (of_decide_eq_true c), ← nI_1] at qq
        exact qq
  have qq := key (sTurns g - 1) 1 (by omega) (by omega)
  have e : sLs g b m 1 = m := by rw [sLs, if_pos rfl]
  rw [e] at qq
  exact zin0 rfl rfl rfl (b194_0 qq)
theorem k_makeBox {b : Nat} (hg : kG g I) (hT : kTb g I) (hLt : kLt g I) (hi : kLi g b I) (hr : sR g b) (hw : sWork g b < 2) (hbb : sBox g b = b) (h : ∀ I' : zI, kLi g (b + 1) I' → zFr tMB I I' → post none I' L (zR1 q)) : zC G (n + 3) 198 [.ref 51, .int (nI b)] I L (zR1 q) post := by
  obtain ⟨i1, i2, i3⟩ := hi
  have hts := sTurns_le g
  have hb19 := sR_lt hg.1 hr
  have hmm := sMM_pos hg.1
  have hcl : (nI b).toNatClampNeg = b := nI_clamp (by omega)
  have hbx : sBxB g (sWork g b) b = true := sBxB_t.mpr ⟨hr, rfl, hbb⟩
  have hs0 := sSl_lt hg.1 (by omega) hbx
  generalize hmv : sWork g b = mv at hw hbx hs0
  generalize hs : sSl g mv b = s0 at hs0
  have est : I 46 b = nI mv := by
    rcases hT.1 b hb19 with z | z
    · rw [z.2, hmv]
    · exact absurd hr z.1
  have e60 : I 60 mv = nI s0 := by rw [i3 mv (by omega), hs]
  have eim : nI mv * 2423 + nI s0 = nI (2423 * mv + s0) := by rw [show (2423 : Int32) = nI 2423 from rfl, pk_mul, nI_add, Nat.mul_comm]
  -- the kinds
  have kinds : ∀ j m (J : zI), m + j = 9 → zFr tMB I J → kLt g J → J 55 b = nI (sSt g b) → J 56 b = nI (sFB (sHas g b) m) → (∀ J' : zI, J' 56 b = nI (sKd g b) → (∀ x, x ≠ b → J' 56 x = J 56 x) → (∀ o, o ≠ 56 → J' o = J o) → post none J' L (zR1 q)) → zQ G 198 (n + 2) post 239 [some (.ref 51), some (.int (nI b)), some (.int (nI mv)), some (.int (nI s0)), some (.int (nI (sLg g b))), some (.int (nI m))] [] J L (zR1 q) := by
    intro j
    induction j with
    | zero =>
      intro m J hm hf hl5 h55 h56 hk
      rw [show m = 9 by omega] at h56 ⊢
      exact b198_239 (pk_le 9 9 (fun _ => b198_287 (hk J h56 (fun _ _ => rfl) (fun _ _ => rfl))) (fun z => absurd z (by omega)) rfl rfl (by omega) (by omega))
    | succ j ih =>
      intro m J hm hf hl5 h55 h56 hk
      have skip : sHas g b m = false → zQ G 198 (n + 2) post 281 [some (.ref 51), some (.int (nI b)), some (.int (nI mv)), some (.int (nI s0)), some (.int (nI (sLg g b))), some (.int (nI m))] [] J L (zR1 q) := by
        intro c
        refine b198_281 ?_
        have qq := ih (m + 1) J (by omega) hf hl5 h55 (by rw [h56, sFB, c]; rfl) hk
        rw [← nI_1] at qq
        exact qq
      refine b198_239 (pk_le 9 m (fun z => absurd z (by omega)) (fun _ => k_holds rfl (by have := sLg_lt g b; omega) rfl (by omega) ?_) rfl rfl (by omega) (by omega))
      rw [sLg_tb hg.1]
      refine zbo_eq (fun c => skip (by unfold sHas; rw [c]; rfl)) (fun c => ?_)
      have hlt := sCan_lt c
      have hll := sLeast_lt (b := b) hg.1 hlt
      refine k_leastLike hg.1 hl5 h55 hb19 hlt ?_
      refine pk_ne (sLeast g b m) m (fun d => skip ?_) (fun d => And.intro ⟨rfl, rfl⟩ (And.intro (vp_in_nI hb19 (by decide)) (And.intro (vp_in_nI hb19 (by decide)) ?_))) rfl rfl (by omega) (by omega)
      · unfold sHas
        rw [decide_eq_false d]
        exact Bool.and_false _
      · have hh : sHas g b m = true := by
          unfold sHas
          rw [c, decide_eq_true d]
          rfl
        rw [hcl, h56, zshl1 (by omega), sFB_or (by omega) hh]
        refine b198_281 ?_
        have qq := ih (m + 1) (zup J 56 b (nI (sFB (sHas g b) (m + 1)))) (by omega) (zFr_up hf rfl) (kLt_of hl5 (by rw [zup_ne (by decide)]) (zup_ne (by decide)) (zup_ne (by decide))) (by rw [zup_ne (by decide)]; exact h55) zup_self (fun J' a1 a2 a3 => hk J' a1 (fun x hx => (a2 x hx).trans (zup_k hx)) (fun o ho => (a3 o ho).trans (zup_ne ho)))
        rw [← nI_1] at qq
        exact qq
  -- behind the turns
  have fin : ∀ (J : zI), zFr tMB I J → kLt g J → (∀ x, x < 19683 → (kHit g b x (sTurns g) → J 52 x = nI b ∧ J 54 x = nI (2 * s0 + mv) ∧ J 53 x = nI (kMt g b x (sTurns g))) ∧ (¬ kHit g b x (sTurns g) → J 52 x = I 52 x ∧ J 54 x = I 54 x ∧ J 53 x = I 53 x)) → J 55 b = nI (sSt g b) → (∀ x, x ≠ b → J 55 x = I 55 x) → J 56 = I 56 → J 59 (2423 * mv + s0) = nI b → (∀ x, x ≠ 2423 * mv + s0 → J 59 x = I 59 x) → J 60 mv = nI (s0 + 1) → (∀ x, x ≠ mv → J 60 x = I 60 x) → ∀ (v5 : Option Value) (v4 : Option Value), zQ G 198 (n + 2) post 219 [some (.ref 51), some (.int (nI b)), some (.int (nI mv)), some (.int (nI s0)), v4, v5] [] J L (zR1 q) := by
    intro J hf hl5 hA h55 h55o h56 h59 h59o h60 h60o v5 v4
    have j47 : J 47 b = nI (sLg g b) := by
      rw [hf 47 b rfl]
      exact (hT.2.1 b hb19 hr (by omega)).1
    refine b198_219 (k_legalAt hb19 ?_)
    rw [j47]
    refine And.intro (vp_in_nI hb19 (by decide)) ?_
    rw [hcl]
    refine kinds 9 0 (zup J 56 b 0) (by omega) (zFr_up hf rfl) (kLt_of hl5 (by rw [zup_ne (by decide)]) (zup_ne (by decide)) (zup_ne (by decide))) (by rw [zup_ne (by decide)]; exact h55) zup_self (fun J' a1 a2 a3 => ?_)
    have jo : ∀ o, o ≠ 56 → J' o = J o := fun o ho => (a3 o ho).trans (zup_ne ho)
    have j56 : ∀ x, x ≠ b → J' 56 x = I 56 x := fun x hx => by rw [a2 x hx, zup_k hx, h56]
    have hitb := fun x => kHit_box hg.1 (x := x) hr hbb
    refine h J' ⟨fun x hx => ⟨fun r1 r2 r3 => ?_, fun r => ?_⟩, fun b' hb' r1 r2 r3 => ?_, fun s hs1 => ?_⟩ (zFr_tr hf (fun o k z => ?_))
    · rw [jo 52 (by decide), jo 53 (by decide), jo 54 (by decide)]
      by_cases w : sBox g x = b
      · have hh := (hitb x).mpr ⟨r1, w⟩
        obtain ⟨c1, c2, c3⟩ := (hA x hx).1 hh
        have ew : sWork g x = mv := by rw [← (gR_box hg.1 r1).2.1, w, hmv]
        rw [c1, c2, c3, w, ew, hs, kMt_end hg.1 hr r1 w]
        exact ⟨rfl, rfl, rfl⟩
      · have hh : ¬ kHit g b x (sTurns g) := fun z => w ((hitb x).mp z).2
        obtain ⟨c1, c2, c3⟩ := (hA x hx).2 hh
        rw [c1, c2, c3]
        exact (i1 x hx).1 r1 r2 (by omega)
    · rw [jo 52 (by decide), jo 54 (by decide)]
      have hh : ¬ kHit g b x (sTurns g) := fun z => by
        obtain ⟨z1, z2⟩ := (hitb x).mp z
        have ew : sWork g x = mv := by rw [← (gR_box hg.1 z1).2.1, z2, hmv]
        exact r ⟨z1, by omega, by omega⟩
      obtain ⟨c1, c2, c3⟩ := (hA x hx).2 hh
      rw [c1, c2]
      exact (i1 x hx).2 fun z => r ⟨z.1, z.2.1, by omega⟩
    · rw [jo 55 (by decide), jo 59 (by decide)]
      by_cases w : b' = b
      · subst w
        rw [hmv, hs]
        exact ⟨h55, a1, h59⟩
      · obtain ⟨c1, c2, c3⟩ := i2 b' (by omega) r1 r2 r3
        have hbx' : sBxB g (sWork g b') b' = true := sBxB_t.mpr ⟨r1, rfl, r3⟩
        have hl' := sSl_lt hg.1 (by omega) hbx'
        have hne : 2423 * sWork g b' + sSl g (sWork g b') b' ≠ 2423 * mv + s0 := by
          intro z
          by_cases w2 : sWork g b' = mv
          · rw [w2] at z hbx'
            exact w (sSl_inj hbx' hbx (by omega))
          · omega
        rw [h55o b' w, j56 b' w, h59o _ hne]
        exact ⟨c1, c2, c3⟩
    · rw [jo 60 (by decide)]
      by_cases w : s = mv
      · subst w
        rw [h60]
        unfold sSl
        rw [sCB, if_pos hbx]
        unfold sSl at hs
        rw [hs]
      · rw [h60o s w, i3 s hs1]
        unfold sSl
        rw [sCB, if_neg (fun z => w ((sBxB_t.mp z).2.1.symm.trans hmv))]
        rfl
    · have n56 : o ≠ 56 := fun w => by subst w; cases z
      rw [jo o n56]
  -- the turns
  have turns : ∀ j t (J0 J : zI) (v5 : Option Value), t + j = sTurns g → zFr tMB I J0 → kLt g J0 → (∀ k, k < 9 → J0 61 k = nI (sCell b k)) → (∀ o, o = 52 ∨ o = 53 ∨ o = 54 → J0 o = I o) → (∀ x, x ≠ b → J0 55 x = I 55 x) → J0 56 = I 56 → J0 59 (2423 * mv + s0) = nI b → (∀ x, x ≠ 2423 * mv + s0 → J0 59 x = I 59 x) → J0 60 mv = nI (s0 + 1) → (∀ x, x ≠ mv → J0 60 x = I 60 x) → zFr tML J0 J → (∀ x, x < 19683 → (kHit g b x t → J 52 x = nI b ∧ J 54 x = nI (2 * s0 + mv) ∧ J 53 x = nI (kMt g b x t)) ∧ (¬ kHit g b x t → J 52 x = I 52 x ∧ J 54 x = I 54 x ∧ J 53 x = I 53 x)) → J 55 b = nI (sFB (fun t' => decide (sTP g b t' = b)) t) → (∀ x, x ≠ b → J 55 x = J0 55 x) → zQ G 198 (n + 2) post 71 [some (.ref 51), some (.int (nI b)), some (.int (nI mv)), some (.int (nI s0)), some (.int (nI t)), v5] [] J L (zR1 q) := by
    intro j
    induction j with
    | zero =>
      intro t J0 J v5 ht hf hl5 h61 h0 h55o h56 h59 h59o h60 h60o hfJ hA h55 h55j
      have et : t = sTurns g := by omega
      refine b198_71a ?_
      show (J 51 13 ≤ nI t → _) ∧ (¬ J 51 13 ≤ nI t → _)
      rw [hfJ 51 13 rfl, hl5.1]
      refine pk_le (sTurns g) t (fun _ => ?_) (fun z => absurd z (by omega)) rfl rfl (by omega) (by omega)
      rw [et] at hA h55
      refine fin J (zFr_tr hf (tML_MB hfJ)) (kLt_of hl5 (hfJ 51 13 rfl) (zFr_row hfJ fun _ => rfl) (zFr_row hfJ fun _ => rfl)) hA ?_ (fun x hx => (h55j x hx).trans (h55o x hx)) ((zFr_row hfJ fun _ => rfl).trans h56) ((hfJ 59 _ rfl).trans h59) (fun x hx => (hfJ 59 x rfl).trans (h59o x hx)) ((hfJ 60 _ rfl).trans h60) (fun x hx => (hfJ 60 x rfl).trans (h60o x hx)) _ _
      rw [h55]
      unfold sSt
      congr 1
      rw [show (8 : Nat) = sTurns g + (8 - sTurns g) by omega, sFB_more (8 - sTurns g) (fun k hk => by rw [decide_eq_false (by omega)]; rfl)]
      refine (sFB_ext _ fun k hk => ?_).symm
      rw [decide_eq_true hk]
      rfl
    | succ j ih =>
      intro t J0 J v5 ht hf hl5 h61 h0 h55o h56 h59 h59o h60 h60o hfJ hA h55 h55j
      have htt : t < sTurns g := by omega
      have hq := (gR_turn hg.1 htt hr).1
      have hq19 := sR_lt hg.1 hq
      have hqb : sBox g (sTP g b t) = b := (sBox_turn hg.1 htt hr).trans hbb
      generalize hQ : sTP g b t = Q at hq hq19 hqb
      have hQcl : (nI Q).toNatClampNeg = Q := nI_clamp (by omega)
      have htcl : (nI t).toNatClampNeg = t := nI_clamp (by omega)
      have tl := zinv t (by omega)
      have tl8 := (tMul_inv t (by omega)).2.2.1
      -- from the three arrays told
      have rest : ∀ (K : zI) (v : Nat), K 52 Q = nI b → K 54 Q = nI (2 * s0 + mv) → K 53 Q = nI v → v < 1000 → min v (tInv t) = kMt g b Q (t + 1) → (∀ x, x ≠ Q → K 52 x = J 52 x ∧ K 54 x = J 54 x ∧ K 53 x = J 53 x) → (∀ o, o ≠ 52 → o ≠ 53 → o ≠ 54 → K o = J o) → zQ G 198 (n + 2) post 167 [some (.ref 51), some (.int (nI b)), some (.int (nI mv)), some (.int (nI s0)), some (.int (nI t)), some (.int (nI Q))] [] K L (zR1 q) := by
        intro K v k2 k4 k3 hv hmin kx ko
        refine b198_167 (And.intro (vp_in_nI hq19 (by decide)) (And.intro (vp_in_nI (show t < 8 by omega) (by decide)) (And.intro (vp_in_nI hq19 (by decide)) (And.intro ⟨rfl, rfl⟩ (And.intro (vp_in_nI hb19 (by decide)) ?_)))))
        rw [hQcl, htcl, hcl, tl, k3, nI_min (by omega) (by omega), hmin]
        obtain ⟨K2, hK2⟩ : ∃ K2 : zI, K2 = zup K 53 Q (nI (kMt g b Q (t + 1))) := ⟨_, rfl⟩
        have e55 : zup K 53 Q (nI (kMt g b Q (t + 1))) 55 b = nI (sFB (fun t' => decide (sTP g b t' = b)) t) := by
          rw [zup_ne (by decide), ko 55 (by decide) (by decide) (by decide), h55]
        rw [e55]
        have last : ∀ x : Int32, nI (sFB (fun t' => decide (sTP g b t' = b)) t) ||| x = nI (sFB (fun t' => decide (sTP g b t' = b)) (t + 1)) → zQ G 198 (n + 2) post 211 [some (.ref 51), some (.int (nI b)), some (.int (nI mv)), some (.int (nI s0)), some (.int (nI t)), some (.int (nI Q))] [.int x, .int (nI (sFB (fun t' => decide (sTP g b t' = b)) t)), .int (nI b), .ref 55] (zup K 53 Q (nI (kMt g b Q (t + 1)))) L (zR1 q) := by
          intro x hx
          refine b198_211 (And.intro (vp_in_nI hb19 (by decide)) ?_)
          rw [hcl, hx]
          refine b198_213 ?_
          have qq := ih (t + 1) J0 (zup (zup K 53 Q (nI (kMt g b Q (t + 1)))) 55 b (nI (sFB (fun t' => decide (sTP g b t' = b)) (t + 1)))) (some (.int (nI Q))) (by omega) hf hl5 h61 h0 h55o h56 h59 h59o h60 h60o (fun o k z => ?_) (fun x hx => ?_) zup_self (fun x hx => ?_)
          · rw [← nI_1] at qq
            exact qq
          · have n52 : o ≠ 52 := fun w => by subst w; cases z
            have n53 : o ≠ 53 := fun w => by subst w; cases z
            have n54 : o ≠ 54 := fun w => by subst w; cases z
            have n55 : o ≠ 55 := fun w => by subst w; cases z
            rw [zup_ne n55, zup_ne n53, ko o n52 n53 n54]
            exact hfJ o k z
          · rw [zup_ne (o' := 52) (by decide), zup_ne (o' := 52) (by decide), zup_ne (o' := 54) (by decide), zup_ne (o' := 54) (by decide), zup_ne (o' := 53) (by decide)]
            by_cases w : x = Q
            · subst w
              rw [zup_self]
              exact ⟨fun _ => ⟨k2, k4, rfl⟩, fun z => absurd (kHit_s.mpr (.inr hQ)) z⟩
            · rw [zup_k w, (kx x w).1, (kx x w).2.1, (kx x w).2.2]
              have nh : kHit g b x (t + 1) ↔ kHit g b x t := by
                rw [kHit_s, hQ]
                exact ⟨fun z => z.resolve_right (fun y => w y.symm), .inl⟩
              have nm : kMt g b x (t + 1) = kMt g b x t := by
                rw [kMt, if_neg (by rw [hQ]; exact fun y => w y.symm)]
              rw [nh, nm]
              exact hA x hx
          · rw [zup_k hx, zup_ne (by decide), ko 55 (by decide) (by decide) (by decide)]
            exact h55j x hx
        refine pk_ne Q b (fun c => b198_210 (last 0 ?_)) (fun c => last _ ?_) rfl rfl (by omega) (by omega)
        · rw [sFB, if_neg (fun z => c (hQ.symm.trans (of_decide_eq_true z)))]
          exact Int32.or_zero
        · rw [zshl1 (by omega)]
          exact sFB_or (f := fun t' => decide (sTP g b t' = b)) (by omega) (decide_eq_true (hQ.trans c))
      -- the image told
      have at104 : zQ G 198 (n + 2) post 104 [some (.ref 51), some (.int (nI b)), some (.int (nI mv)), some (.int (nI s0)), some (.int (nI t)), v5] [.int (nI Q)] J L (zR1 q) := by
        refine b198_104 (And.intro (fun z => absurd z (nI_pos (by omega))) (fun _ => pk_lt Q 19683 (fun _ => b198_124 (And.intro (vp_in_nI hq19 (by decide)) ?_)) (fun z => absurd z (by omega)) rfl rfl (by omega) (by omega)))
        rw [hQcl]
        by_cases hh : kHit g b Q t
        · obtain ⟨c1, c2, c3⟩ := (hA Q hq19).1 hh
          rw [c1]
          refine And.intro (fun _ => ?_) (fun z => absurd (nI_pos' (by omega)) z)
          obtain ⟨t', ht', he⟩ := hh
          have mle := kMt_le t t' ht' he
          have m8 := (tMul_inv t' (by omega)).2.2.1
          refine rest J (kMt g b Q t) c1 c2 c3 (by omega) ?_ (fun x _ => ⟨rfl, rfl, rfl⟩) (fun o _ _ _ => rfl)
          rw [kMt, if_pos hQ]
        · obtain ⟨c1, c2, c3⟩ := (hA Q hq19).2 hh
          have m1 : I 52 Q = -1 := ((i1 Q hq19).2 fun z => by omega).1
          rw [c1, m1]
          refine And.intro (fun z => absurd z (by decide)) (fun _ => And.intro (vp_in_nI hq19 (by decide)) (And.intro (vp_in_nI hq19 (by decide)) (And.intro (vp_in_nI (show t < 8 by omega) (by decide)) (And.intro (vp_in_nI hq19 (by decide)) ?_))))
          rw [hQcl, htcl, tl]
          have e2 : (2 : Int32) * nI s0 + nI mv = nI (2 * s0 + mv) := by rw [show (2 : Int32) = nI 2 from rfl, pk_mul, nI_add]
          refine rest _ (tInv t) ?_ ?_ ?_ (by omega) ?_ (fun x hx => ⟨?_, ?_, ?_⟩) (fun o o2 o3 o4 => ?_)
          · rw [zup_ne (by decide), zup_ne (by decide), zup_self]
          · rw [zup_ne (by decide), zup_self, e2]
          · rw [zup_self]
          · rw [kMt, if_pos hQ, kMt_no t hh]
            omega
          · rw [zup_ne (by decide), zup_ne (by decide), zup_k hx]
          · rw [zup_ne (by decide), zup_k hx, zup_ne (by decide)]
          · rw [zup_k hx, zup_ne (by decide), zup_ne (by decide)]
          · rw [zup_ne o3, zup_ne o4, zup_ne o2]
      refine b198_71a ?_
      show (J 51 13 ≤ nI t → _) ∧ (¬ J 51 13 ≤ nI t → _)
      rw [hfJ 51 13 rfl, hl5.1]
      refine pk_le (sTurns g) t (fun z => absurd z (by omega)) (fun _ => zP_slen (by decide) d198_85 (b198_86 ?_)) rfl rfl (by omega) (by omega)
      refine pk_le 8 t (fun z => absurd z (by omega)) (fun _ => ?_) rfl rfl (by omega) (by omega)
      refine pk_ne t 0 (fun c => b198_98 ?_) (fun c => ?_) rfl rfl (by omega) (by omega)
      · have hbg : g 0 = 0 := by
          have := sTurns_b htt c
          have := g0_01 hg.1
          omega
        have hgJ : kG g J := kG_of hg ((zFr_row hfJ fun _ => rfl).trans (zFr_row hf fun _ => rfl))
        refine k_imageBy hgJ hbg (kLt_of hl5 (hfJ 51 13 rfl) (zFr_row hfJ fun _ => rfl) (zFr_row hfJ fun _ => rfl)) (fun k hk => (hfJ 61 k rfl).trans (h61 k hk)) (sR_lt3 hg.1 hbg hr) htt c ?_
        rw [hQ]
        exact at104
      · subst c
        have e : Q = b := by rw [← hQ, sTP_0]
        rw [e] at at104
        exact at104
  -- the beginning
  refine zin0 rfl rfl rfl (b198_0 (k_stateOf (fun p' hp' e => ?_) (fun z => absurd z (xOut_no hb19 (by decide) rfl))))
  rw [← nI_inj (by omega) (by omega) e, est]
  have go : zQ G 198 (n + 2) post 17 [some (.ref 51), some (.int (nI b)), none, none, none, none] [.int (nI mv)] I L (zR1 q) := by
    refine b198_17 (And.intro (vp_in_nI (show mv < 2 by omega) (by decide)) ?_)
    rw [nI_clamp (by omega), e60]
    refine pk_lt s0 2423 (fun _ => b198_33 ?_) (fun z => absurd z (by omega)) rfl rfl (by omega) (by omega)
    refine And.intro ?_ (And.intro ⟨rfl, rfl⟩ (And.intro (vp_in_nI (show mv < 2 by omega) (by decide)) (And.intro (vp_in_nI (show mv < 2 by omega) (by decide)) (And.intro (vp_in_nI hb19 (by decide)) ?_))))
    · rw [eim]
      exact vp_in_nI (by omega) (by decide)
    · rw [eim, nI_clamp (by omega), nI_clamp (by omega), hcl, zup_ne (o' := 60) (by decide), e60, nI_1]
      refine k_readStones hb19 (fun J j61 fj => ?_)
      have jo : ∀ o, o ≠ 61 → J o = zup (zup (zup I 59 (2423 * mv + s0) (nI b)) 60 mv (nI (s0 + 1))) 55 b 0 o := fun o ho => zFr_row fj fun k => by
        unfold tRS
        exact zbeq_f ho
      refine turns (sTurns g) 0 J J none (by omega) (fun o k z => ?_) (kLt_of hLt (by rw [jo 51 (by decide)]; rfl) ((jo 57 (by decide)).trans rfl) ((jo 58 (by decide)).trans rfl)) j61 (fun o ho => ?_) (fun x hx => ?_) ((jo 56 (by decide)).trans rfl) ?_ (fun x hx => ?_) ?_ (fun x hx => ?_) (zFr_0 _ _) (fun x hx => ⟨fun z => ?_, fun _ => ?_⟩) ?_ (fun _ _ => rfl)
      · have n55 : o ≠ 55 := fun w => by subst w; cases z
        have n59 : o ≠ 59 := fun w => by subst w; cases z
        have n60 : o ≠ 60 := fun w => by subst w; cases z
        have n61 : o ≠ 61 := fun w => by subst w; cases z
        rw [jo o n61, zup_ne n55, zup_ne n60, zup_ne n59]
      · rw [jo o (by omega), zup_ne (by omega), zup_ne (by omega), zup_ne (by omega)]
      · rw [jo 55 (by decide), zup_k hx, zup_ne (by decide), zup_ne (by decide)]
      · rw [jo 59 (by decide), zup_ne (by decide), zup_ne (by decide), zup_self]
      · rw [jo 59 (by decide), zup_ne (by decide), zup_ne (by decide), zup_k hx]
      · rw [jo 60 (by decide), zup_ne (by decide), zup_self]
      · rw [jo 60 (by decide), zup_ne (by decide), zup_k hx, zup_ne (by decide)]
      · obtain ⟨t', ht', -⟩ := z
        exact absurd ht' (Nat.not_lt_zero _)
      · rw [jo 52 (by decide), jo 53 (by decide), jo 54 (by decide)]
        exact ⟨rfl, rfl, rfl⟩
      · rw [jo 55 (by decide), zup_self]
        rfl
  refine pk_ne mv 1 (fun c => b198_16 ?_) (fun c => ?_) rfl rfl (by omega) (by omega)
  · rw [show mv = 0 by omega] at go
    exact go
  · rw [c] at go
    exact go
end
