-- ===== the class: chests =====
def kCo (O B P : Nat) : Prop := (O = 62 ∧ B = 63 ∧ P = 64) ∨ (O = 65 ∧ B = 66 ∧ P = 67) ∨ (O = 98 ∧ B = 99 ∧ P = 100) ∨ (O = 101 ∧ B = 102 ∧ P = 103) ∨ (O = 104 ∧ B = 105 ∧ P = 106)
/-- the number of a box of the chest's -/
noncomputable def sl (g : zg) (b : Nat) : Nat := sSl g (g 8) b
noncomputable def sN (g : zg) : Nat := sSl g (g 8) 19683
noncomputable def sB (g : zg) (b : Nat) : Bool := sBxB g (g 8) b
theorem sl_lt {g : zg} (hg : gOk g) {b : Nat} (h : sB g b = true) : sl g b < sN g ∧ sN g ≤ 2423 := ⟨sCB_lt h 19683 (sR_lt hg (sBxB_t.mp h).1), sBxB_n hg hg.2.2.2.2.2.2.2.2⟩
theorem sl_inj {g : zg} {b b' : Nat} (h : sB g b = true) (h' : sB g b' = true) (e : sl g b = sl g b') : b = b' := sSl_inj h h' e
/-- an object holds a chest, by its boxes' numbers -/
def kC (g : zg) (c : sC) (O B P : Nat) (I : zI) : Prop := (∀ b, sB g b = true → I P (sl g b) = zbo (c.2.1 b) ∧ ∀ k, k < 9 → I B (9 * sl g b + k) = nI (c.1 (9 * b + k))) ∧ (∀ j, sN g ≤ j → j < 2423 → I P j = 0 ∧ ∀ k, k < 9 → I B (9 * j + k) = 0) ∧ I O 2 = nI c.2.2.1 ∧ I O 3 = nI c.2.2.2.1 ∧ I O 4 = c.2.2.2.2
theorem kC_of {g : zg} {c : sC} {O B P : Nat} {I I' : zI} (h : kC g c O B P I) (h1 : I' B = I B) (h2 : I' P = I P) (h3 : ∀ k, k = 2 ∨ k = 3 ∨ k = 4 → I' O k = I O k) : kC g c O B P I' := by
  unfold kC
  rw [h1, h2, h3 2 (by omega), h3 3 (by omega), h3 4 (by omega)]
  exact h
theorem kC_bd {g : zg} {c : sC} {O B P b k v : Nat} {I : zI} (hg : gOk g) (hBP : B ≠ P) (hBO : B ≠ O) (h : kC g c O B P I) (hb : sB g b = true) (hk : k < 9) : kC g (cSetBd c (9 * b + k) v) O B P (zup I B (9 * sl g b + k) (nI v)) := by
  obtain ⟨h1, h2, h3, h4, h5⟩ := h
  have hl := sl_lt hg hb
  refine ⟨fun b' hb' => ⟨?_, fun k' hk' => ?_⟩, fun j hj hj2 => ⟨?_, fun k' hk' => ?_⟩, ?_, ?_, ?_⟩
  · rw [zup_ne (Ne.symm hBP)]
    exact (h1 b' hb').1
  · rw [zup_eq]
    show _ = nI (fup c.1 (9 * b + k) v (9 * b' + k'))
    by_cases w : 9 * sl g b' + k' = 9 * sl g b + k
    · have e := sl_inj hb' hb (by omega)
      rw [if_pos w, show 9 * b' + k' = 9 * b + k by omega, fup_s]
    · rw [if_neg w, fup_n (fun z => w (by rw [show b' = b by omega, show k' = k by omega]))]
      exact (h1 b' hb').2 k' hk'
  · rw [zup_ne (Ne.symm hBP)]
    exact (h2 j hj hj2).1
  · rw [zup_k (by omega)]
    exact (h2 j hj hj2).2 k' hk'
  · rw [zup_ne (Ne.symm hBO)]
    exact h3
  · rw [zup_ne (Ne.symm hBO)]
    exact h4
  · rw [zup_ne (Ne.symm hBO)]
    exact h5
theorem kC_op {g : zg} {c : sC} {O B P b : Nat} {I : zI} (hg : gOk g) (hBP : B ≠ P) (hPO : P ≠ O) (h : kC g c O B P I) (hb : sB g b = true) : kC g (cSetOp c b true) O B P (zup I P (sl g b) 1) := by
  obtain ⟨h1, h2, h3, h4, h5⟩ := h
  have hl := sl_lt hg hb
  refine ⟨fun b' hb' => ⟨?_, fun k' hk' => ?_⟩, fun j hj hj2 => ⟨?_, fun k' hk' => ?_⟩, ?_, ?_, ?_⟩
  · rw [zup_eq]
    show _ = zbo (fup c.2.1 b true b')
    by_cases w : sl g b' = sl g b
    · have e := sl_inj hb' hb w
      rw [if_pos w, e, fup_s]
      rfl
    · rw [if_neg w, fup_n (fun z => w (by rw [z]))]
      exact (h1 b' hb').1
  · rw [zup_ne hBP]
    exact (h1 b' hb').2 k' hk'
  · rw [zup_k (by omega)]
    exact (h2 j hj hj2).1
  · rw [zup_ne hBP]
    exact (h2 j hj hj2).2 k' hk'
  · rw [zup_ne (Ne.symm hPO)]
    exact h3
  · rw [zup_ne (Ne.symm hPO)]
    exact h4
  · rw [zup_ne (Ne.symm hPO)]
    exact h5
theorem kC_bag {g : zg} {c : sC} {O B P v : Nat} {I : zI} (hBO : B ≠ O) (hPO : P ≠ O) (h : kC g c O B P I) : kC g (cSetBag c v) O B P (zup I O 2 (nI v)) := by
  obtain ⟨h1, h2, h3, h4, h5⟩ := h
  refine ⟨?_, ?_, zup_self, ?_, ?_⟩
  · rw [zup_ne hBO, zup_ne hPO]
    exact h1
  · rw [zup_ne hBO, zup_ne hPO]
    exact h2
  · rw [zup_k (by decide)]
    exact h4
  · rw [zup_k (by decide)]
    exact h5
theorem kC_sp {g : zg} {c : sC} {O B P v : Nat} {I : zI} (hBO : B ≠ O) (hPO : P ≠ O) (h : kC g c O B P I) : kC g (cSetSp c v) O B P (zup I O 3 (nI v)) := by
  obtain ⟨h1, h2, h3, h4, h5⟩ := h
  refine ⟨?_, ?_, ?_, zup_self, ?_⟩
  · rw [zup_ne hBO, zup_ne hPO]
    exact h1
  · rw [zup_ne hBO, zup_ne hPO]
    exact h2
  · rw [zup_k (by decide)]
    exact h3
  · rw [zup_k (by decide)]
    exact h5
theorem kC_R {g : zg} {c : sC} {O B P : Nat} {r : Int32} {I : zI} (hBO : B ≠ O) (hPO : P ≠ O) (h : kC g c O B P I) : kC g (cSetR c r) O B P (zup I O 4 r) := by
  obtain ⟨h1, h2, h3, h4, h5⟩ := h
  refine ⟨?_, ?_, ?_, ?_, zup_self⟩
  · rw [zup_ne hBO, zup_ne hPO]
    exact h1
  · rw [zup_ne hBO, zup_ne hPO]
    exact h2
  · rw [zup_k (by decide)]
    exact h3
  · rw [zup_k (by decide)]
    exact h4
/-- what a chest's calls may touch -/
def tCh (O B P o k : Nat) : Bool := Nat.beq o B || Nat.beq o P || (Nat.beq o O && (Nat.beq k 2 || Nat.beq k 3 || Nat.beq k 4))
theorem tCh_up {O B P : Nat} {I I' : zI} {o k : Nat} {v : Int32} (h : zFr (tCh O B P) I I') (ht : o = B ∨ o = P ∨ (o = O ∧ (k = 2 ∨ k = 3 ∨ k = 4))) : zFr (tCh O B P) I (zup I' o k v) := zFr_up h (by
  unfold tCh
  rcases ht with rfl | rfl | ⟨rfl, rfl | rfl | rfl⟩
  · rw [Nat.beq_refl]; rfl
  · rw [Nat.beq_refl, Bool.or_true]; rfl
  · rw [Nat.beq_refl]; exact Bool.or_true _
  · rw [Nat.beq_refl]; exact Bool.or_true _
  · rw [Nat.beq_refl]; exact Bool.or_true _)
theorem kCo_ne {O B P : Nat} (h : kCo O B P) : B ≠ P ∧ B ≠ O ∧ P ≠ O := by
  unfold kCo at h
  omega
/-- so many beads of each move of a mask, and how many came -/
def cFl (f : Nat → Bool) (b x : Nat) (c : sC) : Nat → sC × Nat
  | 0 => (c, 0)
  | m + 1 => if f m = true then (cGive (cFl f b x c m).1 (9 * b + m) x, (cFl f b x c m).2 + min x (cFl f b x c m).1.2.2.1) else cFl f b x c m
theorem cFl_fill (g : zg) (b x : Nat) (c : sC) : ∀ m, cFl (sHas g b) b x c m = cFill g b x c m
  | 0 => rfl
  | m + 1 => by rw [cFl, cFill, cFl_fill g b x c m]
theorem cFl_no (b x : Nat) (c : sC) : ∀ m, cFl (fun _ => false) b x c m = (c, 0)
  | 0 => rfl
  | m + 1 => by
    rw [cFl, cFl_no b x c m]
    rfl
theorem cFill_9 {g : zg} (hg : gOk g) (b x : Nat) (c : sC) : cFill g b x c 9 = cFill g b x c (sMM g) := by
  have hmm := sMM_pos hg
  have key : ∀ j, cFill g b x c (sMM g + j) = cFill g b x c (sMM g) := by
    intro j
    induction j with
    | zero => rfl
    | succ j ih =>
      show (if sHas g b (sMM g + j) = true then _ else cFill g b x c (sMM g + j)) = _
      rw [if_neg, ih]
      intro z
      unfold sHas at z
      have := sCan_lt (Bool.and_eq_true_iff.mp z).1
      omega
  have := key (9 - sMM g)
  rw [show sMM g + (9 - sMM g) = 9 by omega] at this
  exact this
/-- counting by the boxes' numbers -/
theorem sCB_slots {g : zg} (hg : gOk g) {f f' : Nat → Bool} (h1 : ∀ b, sB g b = true → f' (sl g b) = f b) (h2 : ∀ j, sN g ≤ j → f' j = false) (h3 : ∀ b, sB g b = false → f b = false) : sCB f' 2423 = sCB f 19683 := by
  have key : ∀ n, sCB f n = sCB f' (sCB (sB g) n) := by
    intro n
    induction n with
    | zero => rfl
    | succ n ih =>
      rw [sCB, sCB]
      by_cases c : sB g n = true
      · rw [if_pos c, sCB, ih, ← h1 n c]
        rfl
      · rw [if_neg c, h3 n (by rw [Bool.eq_false_iff]; exact c), ih]
        rfl
  have hn := sBxB_n hg hg.2.2.2.2.2.2.2.2
  have e : sCB f' 2423 = sCB f' (sN g) := by
    have := sCB_more (f := f') (n := sN g) (2423 - sN g) h2
    rw [show sN g + (2423 - sN g) = 2423 by unfold sN sSl; omega] at this
    exact this
  rw [e, key 19683]
  rfl
section
variable {G : zG} {n : Nat} {I : zI} {L : zL} {R : zR} {q : zq} {post : zPo} {g : zg} {c : sC} {O B P : Nat}
theorem k_placeOf {j k : Nat} (hO : kCo O B P) (hj : j < 2423) (hk : k < 9) (h : post (some (.int (nI (9 * j + k)))) I L (zR1 q)) : zC G (n + 1) 129 [.ref O, .int (nI j), .int (nI k)] I L (zR1 q) post := by
  have e : nI j * 9 + nI k = nI (9 * j + k) := by rw [show (9 : Int32) = nI 9 from rfl, pk_mul, nI_add, Nat.mul_comm]
  refine zin0 rfl rfl rfl (b129_0 (And.intro (fun z => absurd z (nI_pos (by omega))) (fun _ => pk_le 2423 j (fun z => absurd z (by omega)) (fun _ => And.intro (fun z => absurd z (nI_pos (by omega))) (fun _ => pk_lt k 9 (fun _ => b129_25 (b129_31 ?_)) (fun z => absurd z (by omega)) rfl rfl (by omega) (by omega))) rfl rfl (by omega) (by omega))))
  rw [e]
  exact h
theorem k_isOpened {b : Nat} (hO : kCo O B P) (hg : gOk g) (hc : kC g c O B P I) (hb : sB g b = true) (h : post (some (.int (zbo (c.2.1 b)))) I L (zR1 q)) : zC G (n + 1) 130 [.ref O, .int (nI (sl g b))] I L (zR1 q) post := by
  have hl := sl_lt hg hb
  have h1 := (hc.1 b hb).1
  rcases hO with ⟨o1, o2, o3⟩ | ⟨o1, o2, o3⟩ | ⟨o1, o2, o3⟩ | ⟨o1, o2, o3⟩ | ⟨o1, o2, o3⟩ <;> (
    subst o1 o2 o3
    refine zin0 rfl rfl rfl (b130_0 (And.intro (fun z => absurd z (nI_pos (by omega))) (fun _ => pk_le 2423 (sl g b) (fun z => absurd z (by omega)) (fun _ => And.intro (vp_in_nI (by omega) (by decide)) ?_) rfl rfl (by omega) (by omega))))
    rw [nI_clamp (by omega), h1]
    refine zbo_eq (fun c => b130_26 (b130_27 (And.intro rfl ?_))) (fun c => b130_27 (And.intro rfl ?_))
    · rw [c] at h
      exact h
    · rw [c] at h
      exact h)
theorem k_isOpened0 (hO : kCo O B P) (h : post (some (.int 0)) I L (zR1 q)) : zC G (n + 1) 130 [.ref O, .int (-1)] I L (zR1 q) post := by
  rcases hO with ⟨o1, o2, o3⟩ | ⟨o1, o2, o3⟩ | ⟨o1, o2, o3⟩ | ⟨o1, o2, o3⟩ | ⟨o1, o2, o3⟩ <;> (
    subst o1 o2 o3
    exact zin0 rfl rfl rfl (b130_0 (And.intro (fun _ => b130_26 (b130_27 (And.intro rfl h))) (fun z => absurd (by decide) z))))
theorem k_beadsOf {b k : Nat} (hO : kCo O B P) (hg : gOk g) (hc : kC g c O B P I) (hb : sB g b = true) (hk : k < 9) (h : post (some (.int (nI (c.1 (9 * b + k))))) I L (zR1 q)) : zC G (n + 2) 131 [.ref O, .int (nI (sl g b)), .int (nI k)] I L (zR1 q) post := by
  have hl := sl_lt hg hb
  have h1 := (hc.1 b hb).2 k hk
  have hO' := hO
  rcases hO with ⟨o1, o2, o3⟩ | ⟨o1, o2, o3⟩ | ⟨o1, o2, o3⟩ | ⟨o1, o2, o3⟩ | ⟨o1, o2, o3⟩ <;> (
    subst o1 o2 o3
    refine zin0 rfl rfl rfl (b131_0 (k_placeOf hO' (by omega) hk (And.intro (fun _ => b131_15 (And.intro (vp_in_nI (by omega) (by decide)) (b131_21 ?_))) (fun z => absurd (nI_pos' (by omega)) z))))
    rw [nI_clamp (by omega), h1]
    exact h)
theorem k_sumOf {b : Nat} {x : Int32} {f : Nat → Bool} (hO : kCo O B P) (hg : gOk g) (hc : kC g c O B P I) (hb : sB g b = true) (hf : ∀ k, k < 9 → decide (x.toBitVec.toNat / 2 ^ k % 2 = 1) = f k) (h : post (some (.int (nI (sSum (fun k => if f k = true then c.1 (9 * b + k) else 0) 9)))) I L (zR1 q)) : zC G (n + 2) 132 [.ref O, .int (nI (sl g b)), .int x] I L (zR1 q) post := by
  have hl := sl_lt hg hb
  have h1 := (hc.1 b hb).2
  have hO' := hO
  rcases hO with ⟨o1, o2, o3⟩ | ⟨o1, o2, o3⟩ | ⟨o1, o2, o3⟩ | ⟨o1, o2, o3⟩ | ⟨o1, o2, o3⟩ <;> (
    have key : ∀ j k, k + j = 9 → zQ G 132 (n + 1) post 13 [some (.ref O), some (.int (nI (sl g b))), some (.int x), some (.int (nI (9 * sl g b))), some (.int (nI (sSum (fun k => if f k = true then c.1 (9 * b + k) else 0) k))), some (.int (nI k))] [] I L (zR1 q) := by
      subst o1 o2 o3
      intro j
      induction j with
      | zero =>
        intro k hk
        rw [show k = 9 by omega]
        exact b132_13 (pk_le 9 9 (fun _ => b132_53 h) (fun z => absurd z (by omega)) rfl rfl (by omega) (by omega))
      | succ j ih =>
        intro k hk
        refine b132_13 (pk_le 9 k (fun z => absurd z (by omega)) (fun _ => And.intro (fun z => absurd z (nI_pos (by omega))) (fun _ => k_holdsX rfl (by omega) ?_)) rfl rfl (by omega) (by omega))
        rw [hf k (by omega)]
        have qq := ih (k + 1) (by omega)
        refine zbo_eq (fun d => b132_47 ?_) (fun d => And.intro ?_ (b132_47 ?_))
        · rw [sSum, if_neg (by rw [d]; decide), Nat.add_zero, ← nI_1] at qq
          exact qq
        · rw [nI_add]
          exact vp_in_nI (by omega) (by decide)
        · rw [nI_add, nI_clamp (by omega), h1 k (by omega), nI_add]
          rw [sSum, if_pos d, ← nI_1] at qq
          exact qq
    have qq := key 9 0 (by omega)
    subst o1 o2 o3
    exact zin0 rfl rfl rfl (b132_0 (k_placeOf (k := 0) hO' (by omega) (by omega) qq)))
theorem zneg1 : ∀ k, k < 9 → decide ((-1 : Int32).toBitVec.toNat / 2 ^ k % 2 = 1) = true := by decide +kernel
theorem k_allOf {b : Nat} (hO : kCo O B P) (hg : gOk g) (hc : kC g c O B P I) (hb : sB g b = true) (h : post (some (.int (nI (sInB c b)))) I L (zR1 q)) : zC G (n + 3) 133 [.ref O, .int (nI (sl g b))] I L (zR1 q) post := by
  have hO' := hO
  rcases hO with ⟨o1, o2, o3⟩ | ⟨o1, o2, o3⟩ | ⟨o1, o2, o3⟩ | ⟨o1, o2, o3⟩ | ⟨o1, o2, o3⟩ <;> (
    subst o1 o2 o3
    exact zin0 rfl rfl rfl (b133_0 (k_sumOf (f := fun _ => true) hO' hg hc hb zneg1 h)))
theorem k_inBoxes (hO : kCo O B P) (hall : cAll c) (hc : kC g c O B P I) (h : post (some (.int (nI (10000 - c.2.2.1 - c.2.2.2.1)))) I L (zR1 q)) : zC G (n + 1) 134 [.ref O] I L (zR1 q) post := by
  have hle : c.2.2.1 + c.2.2.2.1 ≤ 10000 := by unfold cAll at hall; omega
  have e : (10000 : Int32) - I O 2 - I O 3 = nI (10000 - c.2.2.1 - c.2.2.2.1) := by
    rw [hc.2.2.1, hc.2.2.2.1, show (10000 : Int32) = nI 10000 from rfl, pk_sub (by omega), pk_sub (by omega)]
  rw [← e] at h
  rcases hO with ⟨o1, o2, o3⟩ | ⟨o1, o2, o3⟩ | ⟨o1, o2, o3⟩ | ⟨o1, o2, o3⟩ | ⟨o1, o2, o3⟩ <;> (
    subst o1 o2 o3
    exact zin0 rfl rfl rfl (b134_0 h))
theorem k_fill2 {b x : Nat} {y z : Int32} {f : Nat → Bool} (hO : kCo O B P) (hg : gOk g) (hall : cAll c) (hc : kC g c O B P I) (hb : sB g b = true) (hy : ∀ k, k < 9 → decide (y.toBitVec.toNat / 2 ^ k % 2 = 1) = f k) (hz : z = nI x) (hx : x < 2 ^ 31) (h : ∀ I' : zI, kC g (cFl f b x (cSetOp c b true) 9).1 O B P I' → zFr (tCh O B P) I I' → post (some (.int (nI (cFl f b x (cSetOp c b true) 9).2))) I' L (zR1 q)) : zC G (n + 2) 136 [.ref O, .int (nI (sl g b)), .int y, .int z] I L (zR1 q) post := by
  subst hz
  have hl := sl_lt hg hb
  have hO' := hO
  obtain ⟨n1, n2, n3⟩ := kCo_ne hO
  have hb19 := sR_lt hg (sBxB_t.mp hb).1
  have c1 : kC g (cSetOp c b true) O B P (zup I P (sl g b) 1) := kC_op hg n1 n3 hc hb
  have f1 : zFr (tCh O B P) I (zup I P (sl g b) 1) := tCh_up (zFr_0 _ _) (.inr (.inl rfl))
  rcases hO with ⟨o1, o2, o3⟩ | ⟨o1, o2, o3⟩ | ⟨o1, o2, o3⟩ | ⟨o1, o2, o3⟩ | ⟨o1, o2, o3⟩ <;> (
    have key : ∀ j k (J : zI) (v7 : Option Value), k + j = 9 → cAll (cFl f b x (cSetOp c b true) k).1 → kC g (cFl f b x (cSetOp c b true) k).1 O B P J → zFr (tCh O B P) I J → zQ G 136 (n + 1) post 28 [some (.ref O), some (.int (nI (sl g b))), some (.int y), some (.int (nI x)), some (.int (nI (9 * sl g b))), some (.int (nI (cFl f b x (cSetOp c b true) k).2)), some (.int (nI k)), v7] [] J L (zR1 q) := by
      intro j
      induction j with
      | zero =>
        intro k J v7 hk ha hJ hf
        have ek : k = 9 := by omega
        subst ek
        subst o1 o2 o3
        exact b136_28 (pk_le 9 9 (fun _ => b136_93 (h J hJ hf)) (fun z => absurd z (by omega)) rfl rfl (by omega) (by omega))
      | succ j ih =>
        intro k J v7 hk ha hJ hf
        have ih' := fun J' v7 => ih (k + 1) J' v7 (by omega)
        rw [cFl] at ih'
        have hbag : (cFl f b x (cSetOp c b true) k).1.2.2.1 ≤ 10000 := (cAll_bd ha (k := 9 * b) (by omega)).2.1
        have j2 := hJ.2.2.1
        have jb := (hJ.1 b hb).2 k (by omega)
        have cg := kC_bag (v := (cFl f b x (cSetOp c b true) k).1.2.2.1 - min x (cFl f b x (cSetOp c b true) k).1.2.2.1) n2 n3 (kC_bd (v := (cFl f b x (cSetOp c b true) k).1.1 (9 * b + k) + min x (cFl f b x (cSetOp c b true) k).1.2.2.1) hg n1 n2 hJ hb (show k < 9 by omega))
        have fg : zFr (tCh O B P) I (zup (zup J B (9 * sl g b + k) (nI ((cFl f b x (cSetOp c b true) k).1.1 (9 * b + k) + min x (cFl f b x (cSetOp c b true) k).1.2.2.1))) O 2 (nI ((cFl f b x (cSetOp c b true) k).1.2.2.1 - min x (cFl f b x (cSetOp c b true) k).1.2.2.1))) := tCh_up (tCh_up hf (.inl rfl)) (.inr (.inr ⟨rfl, .inl rfl⟩))
        have hag := cAll_give (x := x) ha (k := 9 * b + k) (by omega)
        have e2 : ∀ v : Int32, zup J B (9 * sl g b + k) v O 2 = nI (cFl f b x (cSetOp c b true) k).1.2.2.1 := fun v => by rw [zup_ne (Ne.symm n2), j2]
        have qd : f k = true → _ := fun d => fun v7 => ih' _ v7 (by rw [if_pos d]; exact hag) (by rw [if_pos d]; exact cg) fg
        subst o1 o2 o3
        refine b136_28 (pk_le 9 k (fun z => absurd z (by omega)) (fun _ => k_holdsX rfl (by omega) ?_) rfl rfl (by omega) (by omega))
        rw [hy k (by omega)]
        refine zbo_eq (fun d => b136_87 ?_) (fun d => ?_)
        · have qq := fun v7 => ih' J v7 (by rw [if_neg (by rw [d]; decide)]; exact ha) (by rw [if_neg (by rw [d]; decide)]; exact hJ) hf
          rw [if_neg (by rw [d]; decide), ← nI_1] at qq
          exact qq _
        · refine And.intro ⟨rfl, rfl⟩ (And.intro ?_ (And.intro ?_ (And.intro rfl ?_)))
          · rw [nI_add]
            exact vp_in_nI (by omega) (by decide)
          · rw [nI_add]
            exact vp_in_nI (by omega) (by decide)
          · rw [nI_add, nI_clamp (by omega), jb, j2, nI_min (by omega) (by omega)]
            have qq := qd d
            rw [if_pos d, ← nI_1, ← nI_add (cFl f b x (cSetOp c b true) k).2 _, ← nI_add ((cFl f b x (cSetOp c b true) k).1.1 (9 * b + k)) _, ← pk_sub (Nat.min_le_right _ _), ← e2 (nI ((cFl f b x (cSetOp c b true) k).1.1 (9 * b + k)) + nI (min x (cFl f b x (cSetOp c b true) k).1.2.2.1))] at qq
            exact b136_87 (qq _)
    have qq := key 9 0 (zup I P (sl g b) 1) none (by omega) (by exact hall) c1 f1
    subst o1 o2 o3
    refine zin0 rfl rfl rfl (b136_0 (k_placeOf (k := 0) hO' (by omega) (by omega) (And.intro (fun _ => b136_15 (And.intro (vp_in_nI (by omega) (by decide)) ?_)) (fun z => absurd (nI_pos' (by omega)) z))))
    rw [nI_clamp (by omega)]
    exact qq)
theorem k_takeIn {b k x : Nat} {z : Int32} (hO : kCo O B P) (hg : gOk g) (hall : cAll c) (hc : kC g c O B P I) (hb : sB g b = true) (hk : k < 9) (hz : z = nI x) (hx : x < 2 ^ 31) (h : ∀ I' : zI, kC g (cGive c (9 * b + k) x) O B P I' → zFr (tCh O B P) I I' → post (some (.int (nI (min x c.2.2.1)))) I' L (zR1 q)) : zC G (n + 2) 137 [.ref O, .int (nI (sl g b)), .int (nI k), .int z] I L (zR1 q) post := by
  subst hz
  have hl := sl_lt hg hb
  have hO' := hO
  obtain ⟨n1, n2, n3⟩ := kCo_ne hO
  have hb19 := sR_lt hg (sBxB_t.mp hb).1
  have hbag : c.2.2.1 ≤ 10000 := (cAll_bd hall (k := 9 * b) (by omega)).2.1
  have j2 := hc.2.2.1
  have jb := (hc.1 b hb).2 k hk
  have cg := h _ (kC_bag (v := c.2.2.1 - min x c.2.2.1) n2 n3 (kC_bd (v := c.1 (9 * b + k) + min x c.2.2.1) hg n1 n2 hc hb hk)) (tCh_up (tCh_up (zFr_0 _ _) (.inl rfl)) (.inr (.inr ⟨rfl, .inl rfl⟩)))
  have e2 : ∀ v : Int32, zup I B (9 * sl g b + k) v O 2 = nI c.2.2.1 := fun v => by rw [zup_ne (Ne.symm n2), j2]
  rw [← nI_add, ← pk_sub (Nat.min_le_right _ _), ← e2 (nI (c.1 (9 * b + k)) + nI (min x c.2.2.1))] at cg
  rcases hO with ⟨o1, o2, o3⟩ | ⟨o1, o2, o3⟩ | ⟨o1, o2, o3⟩ | ⟨o1, o2, o3⟩ | ⟨o1, o2, o3⟩ <;> (
    subst o1 o2 o3
    refine zin0 rfl rfl rfl (b137_0 (k_placeOf hO' (by omega) hk (And.intro (fun _ => b137_15 (And.intro ⟨rfl, rfl⟩ (And.intro (vp_in_nI (by omega) (by decide)) (And.intro (vp_in_nI (by omega) (by decide)) (And.intro rfl ?_))))) (fun z => absurd (nI_pos' (by omega)) z))))
    rw [nI_clamp (by omega), jb, j2, nI_min (by omega) (by omega)]
    exact cg)
theorem k_giveBack {b k x : Nat} {z : Int32} (hO : kCo O B P) (hg : gOk g) (hall : cAll c) (hc : kC g c O B P I) (hb : sB g b = true) (hk : k < 9) (hz : z = nI x) (hx : x < 2 ^ 31) (hxb : x ≤ c.1 (9 * b + k)) (h : ∀ I' : zI, kC g (cOut c (9 * b + k) x) O B P I' → zFr (tCh O B P) I I' → post none I' L (zR1 q)) : zC G (n + 2) 138 [.ref O, .int (nI (sl g b)), .int (nI k), .int z] I L (zR1 q) post := by
  subst hz
  have hl := sl_lt hg hb
  have hO' := hO
  obtain ⟨n1, n2, n3⟩ := kCo_ne hO
  have hb19 := sR_lt hg (sBxB_t.mp hb).1
  have hbd : c.1 (9 * b + k) ≤ 10000 := (cAll_bd hall (k := 9 * b + k) (by omega)).1
  have j2 := hc.2.2.1
  have jb := (hc.1 b hb).2 k hk
  have cg := h _ (kC_bag (v := c.2.2.1 + x) n2 n3 (kC_bd (v := c.1 (9 * b + k) - x) hg n1 n2 hc hb hk)) (tCh_up (tCh_up (zFr_0 _ _) (.inl rfl)) (.inr (.inr ⟨rfl, .inl rfl⟩)))
  have e2 : ∀ v : Int32, zup I B (9 * sl g b + k) v O 2 = nI c.2.2.1 := fun v => by rw [zup_ne (Ne.symm n2), j2]
  rw [← nI_add, ← pk_sub hxb, ← e2 (nI (c.1 (9 * b + k)) - nI x)] at cg
  rcases hO with ⟨o1, o2, o3⟩ | ⟨o1, o2, o3⟩ | ⟨o1, o2, o3⟩ | ⟨o1, o2, o3⟩ | ⟨o1, o2, o3⟩ <;> (
    subst o1 o2 o3
    refine zin0 rfl rfl rfl (b138_0 (k_placeOf hO' (by omega) hk (And.intro (fun z => absurd z (nI_pos (by omega))) (fun _ => And.intro (vp_in_nI (by omega) (by decide)) (And.intro ⟨rfl, rfl⟩ (And.intro (vp_in_nI (by omega) (by decide)) (And.intro (vp_in_nI (by omega) (by decide)) (And.intro rfl ?_))))))))
    rw [nI_clamp (by omega), jb, nI_min (by omega) (by omega), show min x (c.1 (9 * b + k)) = x by omega]
    exact b138_49 cg)
theorem k_spend {b k x : Nat} {z : Int32} (hO : kCo O B P) (hg : gOk g) (hall : cAll c) (hc : kC g c O B P I) (hb : sB g b = true) (hk : k < 9) (hz : z = nI x) (hx : x < 2 ^ 31) (h : ∀ I' : zI, kC g (cSetSp (cSetBd c (9 * b + k) (c.1 (9 * b + k) - min x (c.1 (9 * b + k)))) (c.2.2.2.1 + min x (c.1 (9 * b + k)))) O B P I' → zFr (tCh O B P) I I' → post none I' L (zR1 q)) : zC G (n + 2) 139 [.ref O, .int (nI (sl g b)), .int (nI k), .int z] I L (zR1 q) post := by
  subst hz
  have hl := sl_lt hg hb
  have hO' := hO
  obtain ⟨n1, n2, n3⟩ := kCo_ne hO
  have hb19 := sR_lt hg (sBxB_t.mp hb).1
  have hbd : c.1 (9 * b + k) ≤ 10000 := (cAll_bd hall (k := 9 * b + k) (by omega)).1
  have j3 := hc.2.2.2.1
  have jb := (hc.1 b hb).2 k hk
  have cg := h _ (kC_sp (v := c.2.2.2.1 + min x (c.1 (9 * b + k))) n2 n3 (kC_bd (v := c.1 (9 * b + k) - min x (c.1 (9 * b + k))) hg n1 n2 hc hb hk)) (tCh_up (tCh_up (zFr_0 _ _) (.inl rfl)) (.inr (.inr ⟨rfl, .inr (.inl rfl)⟩)))
  have e2 : ∀ v : Int32, zup I B (9 * sl g b + k) v O 3 = nI c.2.2.2.1 := fun v => by rw [zup_ne (Ne.symm n2), j3]
  rw [← nI_add, ← pk_sub (Nat.min_le_right _ _), ← e2 (nI (c.1 (9 * b + k)) - nI (min x (c.1 (9 * b + k))))] at cg
  rcases hO with ⟨o1, o2, o3⟩ | ⟨o1, o2, o3⟩ | ⟨o1, o2, o3⟩ | ⟨o1, o2, o3⟩ | ⟨o1, o2, o3⟩ <;> (
    subst o1 o2 o3
    refine zin0 rfl rfl rfl (b139_0 (k_placeOf hO' (by omega) hk (And.intro (fun z => absurd z (nI_pos (by omega))) (fun _ => And.intro (vp_in_nI (by omega) (by decide)) (And.intro ⟨rfl, rfl⟩ (And.intro (vp_in_nI (by omega) (by decide)) (And.intro (vp_in_nI (by omega) (by decide)) (And.intro rfl ?_))))))))
    rw [nI_clamp (by omega), jb, nI_min (by omega) (by omega)]
    exact b139_49 cg)
theorem k_draw {k : Nat} (hO : kCo O B P) (hk : 0 < k) (hk2 : k < 2 ^ 31) (hc : kC g c O B P I) (h : ∀ I' : zI, kC g (cSetR c (sRnd c.2.2.2.2)) O B P I' → zFr (tCh O B P) I I' → post (some (.int (nI (sDr c.2.2.2.2 k)))) I' L (zR1 q)) : zC G (n + 1) 140 [.ref O, .int (nI k)] I L (zR1 q) post := by
  obtain ⟨n1, n2, n3⟩ := kCo_ne hO
  have cg := h _ (kC_R (r := sRnd c.2.2.2.2) n2 n3 hc) (tCh_up (zFr_0 _ _) (.inr (.inr ⟨rfl, .inr (.inr rfl)⟩)))
  have j4 := hc.2.2.2.2
  have hl := zbv_lt (sRnd c.2.2.2.2)
  have e : ∀ w : Int32, w = sRnd c.2.2.2.2 → (w.toUInt32 >>> ((16 : Int32).toUInt32 &&& Int32.toUInt32 31)).toInt32 - (w.toUInt32 >>> ((16 : Int32).toUInt32 &&& Int32.toUInt32 31)).toInt32 / nI k * nI k = nI (sDr c.2.2.2.2 k) := by
    intro w hw
    subst hw
    rw [zush, pk_rem (by omega) hk hk2]
    rfl
  rcases hO with ⟨o1, o2, o3⟩ | ⟨o1, o2, o3⟩ | ⟨o1, o2, o3⟩ | ⟨o1, o2, o3⟩ | ⟨o1, o2, o3⟩ <;> (
    subst o1 o2 o3
    refine zin0 rfl rfl rfl (b140_0 (And.intro (fun z => absurd z (Int32.not_le.mpr ((nI_ltI (a := 0) (by omega) (by omega)).mpr hk))) (fun _ => And.intro (nI_ne0 hk hk2) (b140_32 ?_))))
    rw [e _ (by rw [zup_self, j4]; rfl), j4]
    exact cg)
theorem k_emptyAll (hO : kCo O B P) (hs : c.2.2.2.1 ≤ 10000) (h3 : I O 3 = nI c.2.2.2.1) (h4 : I O 4 = c.2.2.2.2) (h : ∀ I' : zI, (∀ g, gOk g → kC g (cClr c) O B P I') → zFr (tCh O B P) I I' → post none I' L (zR1 q)) : zC G (n + 2) 141 [.ref O] I L (zR1 q) post := by
  obtain ⟨n1, n2, n3⟩ := kCo_ne hO
  have fin : ∀ (J : zI), (∀ k, k < 21807 → J B k = 0) → (∀ k, k < 2423 → J P k = 0) → (∀ o, o ≠ B → o ≠ P → J o = I o) → post none (zup J O 2 (nI (10000 - c.2.2.2.1))) L (zR1 q) := by
    intro J hB hP ho
    have eO := ho O (Ne.symm n2) (Ne.symm n3)
    have fr : zFr (tCh O B P) I J := fun o k z => by
      unfold tCh at z
      simp only [Bool.or_eq_false_iff] at z
      have nB : o ≠ B := fun w => by rw [w, Nat.beq_refl] at z; cases z.1.1
      have nP : o ≠ P := fun w => by rw [w, Nat.beq_refl] at z; cases z.1.2
      rw [ho o nB nP]
    refine h _ (fun g hg => ?_) (tCh_up fr (.inr (.inr ⟨rfl, .inl rfl⟩)))
    have raw : ∀ j k, j < 2423 → k < 9 → zup J O 2 (nI (10000 - c.2.2.2.1)) B (9 * j + k) = 0 := fun j k hj hk => by
      rw [zup_ne n2]
      exact hB _ (by omega)
    have raw2 : ∀ j, j < 2423 → zup J O 2 (nI (10000 - c.2.2.2.1)) P j = 0 := fun j hj => by
      rw [zup_ne n3]
      exact hP _ hj
    refine ⟨fun b hb => ?_, fun j hj hj2 => ⟨raw2 j hj2, fun k hk => raw j k hj2 hk⟩, zup_self, ?_, ?_⟩
    · have := sl_lt hg hb
      exact ⟨raw2 _ (by omega), fun k hk => raw _ k (by omega) hk⟩
    · rw [zup_k (by decide), eO]
      exact h3
    · rw [zup_k (by decide), eO]
      exact h4
  rcases hO with ⟨o1, o2, o3⟩ | ⟨o1, o2, o3⟩ | ⟨o1, o2, o3⟩ | ⟨o1, o2, o3⟩ | ⟨o1, o2, o3⟩ <;> (
    subst o1 o2 o3
    refine zin0 rfl rfl rfl (b141_0 (k_fill (m := 21807) rfl rfl (by decide) (fun J1 a1 o1 => k_fill (m := 2423) rfl rfl (by decide) (fun J2 a2 o2 => ?_))))
    have qq := fin J2 (fun k hk => by rw [o2 _ n1]; exact a1 k hk) a2 (fun o h1 h2 => by rw [o2 o h2, o1 o h1])
    rw [← pk_sub hs, ← h3, ← o1 _ (Ne.symm n2), ← o2 _ (Ne.symm n3)] at qq
    exact qq)
end
