-- ===== the class: drawing the lines =====
def kDw (x : Int32) (W : Nat) : Prop := (x = nI W ∧ W ≤ 3) ∨ (x = -1 ∧ W = 0)
theorem kDk_w {x : Int32} (h : kDk x) : ∃ W, kDw x W := by
  rcases h with rfl | ⟨v, h1, h2, rfl⟩
  · exact ⟨0, .inr ⟨rfl, rfl⟩⟩
  · exact ⟨v, .inl ⟨rfl, h2⟩⟩
theorem kDw_le {x : Int32} {W i : Nat} {A B : Prop} (h : kDw x W) (hi : i < 1000) (f : W ≤ i → A) (f2 : i < W → B) : (x ≤ nI i → A) ∧ (¬ x ≤ nI i → B) := by
  rcases h with ⟨rfl, h⟩ | ⟨rfl, rfl⟩
  · exact pk_le W i f f2 rfl rfl (by omega) (by omega)
  · exact ⟨fun _ => f (Nat.zero_le _), fun z => absurd (Int32.le_trans (by decide : (-1 : Int32) ≤ 0) (nI_pos' (by omega))) z⟩
def lnEnd (W H K x y d : Nat) : Bool := decide ((x : Int) + ((K - 1 : Nat) : Int) * sDx d < W) && (decide (0 ≤ (y : Int) + ((K - 1 : Nat) : Int) * sDy d) && decide ((y : Int) + ((K - 1 : Nat) : Int) * sDy d < H))
theorem lnEnd_d : tAll (fun W H => (List.range 3).all fun K => (List.range W).all fun x => (List.range H).all fun y => (List.range 4).all fun d => lnIn W H (K + 1) (4 * (W * y + x) + d) == lnEnd W H (K + 1) x y d) = true := by decide +kernel
theorem lnEnd_eq {W H K x y d : Nat} (w : 1 ≤ W ∧ W ≤ 3) (v : 1 ≤ H ∧ H ≤ 3) (k : 1 ≤ K ∧ K ≤ 3) (hx : x < W) (hy : y < H) (hd : d < 4) : lnIn W H K (4 * (W * y + x) + d) = lnEnd W H K x y d := by
  have q := rAll (rAll (rAll (rAll (tAll_get lnEnd_d w v) (show K - 1 < 3 by omega)) hx) hy) hd
  rw [show K - 1 + 1 = K by omega] at q
  exact eq_of_beq q
/-- the lines with codes below c, laid -/
def kLk (g : zg) (c : Nat) (I : zI) : Prop := I 44 6 = nI (lnL (g 1) (g 2) (g 3) c).length ∧ ∀ j c', (lnL (g 1) (g 2) (g 3) c)[j]? = some c' → ∃ l, I 50 j = nI l ∧ lnM (g 1) (g 3) c' l
def tDL (o k : Nat) : Bool := Nat.beq o 50 || (Nat.beq o 44 && Nat.beq k 6)
section
variable {G : zG} {n : Nat} {I : zI} {L : zL} {q : zq} {post : zPo} {g : zg}
theorem k_drawLineW {x y dx dy : Int32} {c : Nat} (h2 : kDk (I 45 2)) (hc : I 44 6 = nI c) (hc2 : c ≤ 36) (h : ∀ (c' : Nat) (I' : zI), I' 44 6 = nI c' → c' ≤ 36 → zFr tDL I I' → post none I' L (zR1 q)) : zC G (n + 1) 229 [.ref 44, .int x, .int y, .int dx, .int dy] I L (zR1 q) post := by
  have stay : post none I L (zR1 q) := h c I hc hc2 (zFr_0 _ _)
  have fin : c < 36 → ∀ (x5 x6 x7 x8 x9 : Int32), zQ G 229 n post 118 [some (.ref 44), some (.int x), some (.int y), some (.int dx), some (.int dy), some (.int x5), some (.int x6), some (.int x7), some (.int x8), some (.int x9)] [] I L (zR1 q) := by
    intro cl x5 x6 x7 x8 x9
    refine b229_118 ?_
    show vp_in (I 44 6) 36 ∧ _
    rw [hc]
    refine And.intro (vp_in_nI cl (by decide)) (And.intro rfl ?_)
    rw [nI_clamp (by omega)]
    refine h (c + 1) _ ?_ (by omega) (zFr_up (zFr_up (zFr_0 _ _) rfl) rfl)
    rw [zup_self, zup_ne (by decide), hc, nI_1]
  have loop : c < 36 → ∀ (x5 x6 x7 : Int32), (x5 = -2 ∨ ∃ f, f < 3 ∧ x5 = nI f) → zQ G 229 n post 76 [some (.ref 44), some (.int x), some (.int y), some (.int dx), some (.int dy), some (.int x5), some (.int x6), some (.int x7), some (.int 0), some (.int (nI 0))] [] I L (zR1 q) := by
    intro cl x5 x6 x7 hx5
    rcases hx5 with rfl | ⟨f, hf, rfl⟩
    · exact b229_76 (And.intro (fun _ => fin cl _ _ _ _ _) (fun z => absurd (by decide) z))
    · have key : ∀ j i (x8 : Int32), i + j = f + 1 → zQ G 229 n post 76 [some (.ref 44), some (.int x), some (.int y), some (.int dx), some (.int dy), some (.int (nI f)), some (.int x6), some (.int x7), some (.int x8), some (.int (nI i))] [] I L (zR1 q) := by
        intro j
        induction j with
        | zero =>
          intro i x8 hi
          exact b229_76 (pk_lt f i (fun _ => fin cl _ _ _ _ _) (fun z => absurd z (by omega)) rfl rfl (by omega) (by omega))
        | succ j ih =>
          intro i x8 hi
          refine b229_76 (pk_lt f i (fun z => absurd z (by omega)) (fun _ => ?_) rfl rfl (by omega) (by omega))
          have qq := fun x8 => ih (i + 1) x8 (by omega)
          rw [← nI_1] at qq
          exact qq _
      exact key (f + 1) 0 0 (by omega)
  have h5 : (I 45 2 - 1 = -2 ∨ ∃ f, f < 3 ∧ I 45 2 - 1 = nI f) := by
    rcases h2 with e | ⟨v, v1, v2, e⟩
    · rw [e]
      exact .inl (by decide)
    · rw [e]
      exact .inr ⟨v - 1, by omega, pk_sub (b := 1) v1⟩
  have go : c ≤ 36 → ∀ (x6 x7 : Int32), (I 44 6 < nI 36 → zQ G 229 n post 70 [some (.ref 44), some (.int x), some (.int y), some (.int dx), some (.int dy), some (.int (I 45 2 - 1)), some (.int x6), some (.int x7), none, none] [] I L (zR1 q)) ∧ (¬ I 44 6 < nI 36 → zQ G 229 n post 69 [some (.ref 44), some (.int x), some (.int y), some (.int dx), some (.int dy), some (.int (I 45 2 - 1)), some (.int x6), some (.int x7), none, none] [] I L (zR1 q)) := by
    intro _ x6 x7
    rw [hc]
    exact pk_lt c 36 (fun cl => b229_70 (loop cl _ _ _ h5)) (fun _ => b229_69 stay) rfl rfl (by omega) (by omega)
  exact zin0 rfl rfl rfl (b229_0 (And.intro (fun _ => b229_69 stay) (fun _ => And.intro (fun _ => b229_69 stay) (fun _ => And.intro (fun _ => b229_69 stay) (fun _ => go hc2 _ _)))))
theorem k_drawLine {x y d : Nat} {dxi dyi : Int32} (hg : kG g I) (hb : g 0 = 0) (hx : x < g 1) (hy : y < g 2) (hd : d < 4) (hdx : dxi = iI (sDx d)) (hdy : dyi = iI (sDy d)) (hl : kLk g (4 * (g 1 * y + x) + d) I) (h : ∀ I' : zI, kLk g (4 * (g 1 * y + x) + d + 1) I' → zFr tDL I I' → post none I' L (zR1 q)) : zC G (n + 1) 229 [.ref 44, .int (nI x), .int (nI y), .int dxi, .int dyi] I L (zR1 q) post := by
  obtain ⟨go1, hw, hh, hk, -⟩ := hg.1
  obtain ⟨e0, e1, e2⟩ := hg.2.2.2.1 hb
  have hlen := lnL_len (g 1) (g 2) (g 3) (4 * (g 1 * y + x) + d)
  have hin := lnEnd_eq hw hh hk hx hy hd
  have hpl : 4 * (g 1 * y + x) + d < 4 * (g 1 * g 2) := by
    have : g 1 * y + g 1 ≤ g 1 * g 2 := by
      rw [← Nat.mul_succ]
      exact Nat.mul_le_mul_left _ hy
    omega
  have hpl9 : g 1 * g 2 ≤ 9 := Nat.mul_le_mul hw.2 hh.2
  have hdxb : sDx d = 0 ∨ sDx d = 1 := by unfold sDx; split <;> omega
  have hdyb : sDy d = 0 ∨ sDy d = 1 ∨ sDy d = -1 := by unfold sDy; repeat' split
                                                       all_goals omega
  have mdx : ∀ i : Nat, i ≤ 3 → 0 ≤ (i : Int) * sDx d ∧ (i : Int) * sDx d ≤ 3 := by
    intro i hi
    rcases hdxb with z | z <;> rw [z] <;> omega
  have mdy : ∀ i : Nat, i ≤ 3 → -3 ≤ (i : Int) * sDy d ∧ (i : Int) * sDy d ≤ 3 := by
    intro i hi
    rcases hdyb with z | z | z <;> rw [z] <;> omega
  have far : I 45 2 - 1 = nI (g 3 - 1) := by rw [e2]; exact pk_sub (b := 1) hk.1
  have eX : nI x + (I 45 2 - 1) * dxi = iI ((x : Int) + ((g 3 - 1 : Nat) : Int) * sDx d) := by
    rw [far, hdx, ← iI_n, ← iI_n, iI_mul, iI_add]
  have eY : nI y + (I 45 2 - 1) * dyi = iI ((y : Int) + ((g 3 - 1 : Nat) : Int) * sDy d) := by
    rw [far, hdy, ← iI_n, ← iI_n, iI_mul, iI_add]
  have bX := mdx (g 3 - 1) (by omega)
  have bY := mdy (g 3 - 1) (by omega)
  have stay : lnIn (g 1) (g 2) (g 3) (4 * (g 1 * y + x) + d) = false → post none I L (zR1 q) := by
    intro z
    refine h I ?_ (zFr_0 _ _)
    unfold kLk
    rw [lnL, z]
    exact hl
  -- the line's end
  have fin : lnIn (g 1) (g 2) (g 3) (4 * (g 1 * y + x) + d) = true → ∀ (l : Nat) (x6 x7 x9 : Int32), lnM (g 1) (g 3) (4 * (g 1 * y + x) + d) l → zQ G 229 n post 118 [some (.ref 44), some (.int (nI x)), some (.int (nI y)), some (.int dxi), some (.int dyi), some (.int (nI (g 3 - 1))), some (.int x6), some (.int x7), some (.int (nI l)), some (.int x9)] [] I L (zR1 q) := by
    intro hin l x6 x7 x9 hm
    refine b229_118 ?_
    show vp_in (I 44 6) 36 ∧ _
    rw [hl.1]
    refine And.intro (vp_in_nI (by omega) (by decide)) (And.intro rfl ?_)
    rw [nI_clamp (by omega)]
    refine h _ ⟨?_, fun j c' hj => ?_⟩ (zFr_up (zFr_up (zFr_0 _ _) rfl) rfl)
    · rw [zup_self, zup_ne (by decide), hl.1, nI_1, lnL, if_pos hin, snoc_len]
    · rw [zup_ne (by decide), zup_eq]
      rw [lnL, if_pos hin] at hj
      rcases snoc_get hj with ⟨a1, a2⟩ | ⟨a1, a2⟩
      · rw [if_pos a1, a2]
        exact ⟨l, rfl, hm⟩
      · rw [if_neg (by omega)]
        exact hl.2 j c' a2
  have loop : lnIn (g 1) (g 2) (g 3) (4 * (g 1 * y + x) + d) = true → ∀ (x6 x7 : Int32) (j i l : Nat), i + j = g 3 → l < 512 → (∀ k, l.testBit k = (List.range i).any fun i => Nat.beq (rPl (g 1) ((4 * (g 1 * y + x) + d) / 4) ((4 * (g 1 * y + x) + d) % 4) i) k) → zQ G 229 n post 76 [some (.ref 44), some (.int (nI x)), some (.int (nI y)), some (.int dxi), some (.int dyi), some (.int (nI (g 3 - 1))), some (.int x6), some (.int x7), some (.int (nI l)), some (.int (nI i))] [] I L (zR1 q) := by
    intro hin x6 x7 j
    induction j with
    | zero =>
      intro i l hi hl5 hm
      have hi' : i = g 3 := by omega
      refine b229_76 (pk_lt (g 3 - 1) i (fun _ => fin hin l _ _ _ ⟨hl5, by rw [← hi']; exact hm⟩) (fun z => absurd z (by omega)) rfl rfl (by omega) (by omega))
    | succ j ih =>
      intro i l hi hl5 hm
      have hii : i < g 3 := by omega
      have ri := rAll (f := rIn (g 1) (g 2) ((4 * (g 1 * y + x) + d) / 4) ((4 * (g 1 * y + x) + d) % 4)) hin hii
      have rlt := rPl_lt ri
      have f1 : (4 * (g 1 * y + x) + d) / 4 = g 1 * y + x := by omega
      have f2 : (4 * (g 1 * y + x) + d) % 4 = d := by omega
      have f3 : (g 1 * y + x) % g 1 = x := by rw [Nat.mul_add_mod, Nat.mod_eq_of_lt hx]
      have f4 : (g 1 * y + x) / g 1 = y := by rw [Nat.mul_add_div (by omega), Nat.div_eq_of_lt hx, Nat.add_zero]
      generalize hP : rPl (g 1) ((4 * (g 1 * y + x) + d) / 4) ((4 * (g 1 * y + x) + d) % 4) i = P at rlt
      have hP9 : P < 9 := by unfold sPl at rlt; omega
      have b1 := mdx i (by omega)
      have b2 := mdy i (by omega)
      have ep : (nI y + nI i * dyi) * I 45 0 + nI x + nI i * dxi = nI P := by
        unfold rIn at ri
        rw [f1, f2] at ri
        rw [f1, f2] at hP
        unfold rX rY at ri
        rw [f3, f4] at ri
        obtain ⟨r1, r2⟩ := Bool.and_eq_true_iff.mp ri
        have r1 := of_decide_eq_true r1
        have r2 := of_decide_eq_true r2
        unfold rPl rX rY at hP
        rw [f3, f4] at hP
        rw [e0, hdy, hdx, ← iI_n y, ← iI_n i, ← iI_n x, ← iI_n (g 1), iI_mul, iI_add, iI_mul, iI_add, iI_mul, iI_add, ← hP, ← iI_n]
        congr 1
        rw [Int.natCast_add, Int.natCast_mul, Int.toNat_of_nonneg r2.1, Int.toNat_of_nonneg r1.1, Int.mul_comm]
        omega
      refine b229_76 (pk_lt (g 3 - 1) i (fun z => absurd z (by omega)) (fun _ => ?_) rfl rfl (by omega) (by omega))
      show zP _ _ _ _ _ _ _ (zsl1 _ _ (.int (nI i + 1))) _ _ _ _ _
      have qq := ih (i + 1) (l ||| 2 ^ P) (by omega) (Nat.or_lt_two_pow (n := 9) hl5 (Nat.pow_lt_pow_right (by decide) hP9)) (fun k => by
        rw [Nat.testBit_or, hm k, List.range_succ, List.any_append, Nat.testBit_two_pow, List.any_cons, List.any_nil, Bool.or_false, hP]
        congr 1
        by_cases w : P = k
        · rw [decide_eq_true w, w, Nat.beq_refl]
        · rw [decide_eq_false w, zbeq_f w])
      rw [← nI_1, ← zorN, ← zshl1 (show P < 31 by omega), ← ep] at qq
      exact qq
  refine zin0 rfl rfl rfl (b229_0 ?_)
  show (I 45 0 ≤ nI x + (I 45 2 - 1) * dxi → _) ∧ (¬ I 45 0 ≤ nI x + (I 45 2 - 1) * dxi → (nI y + (I 45 2 - 1) * dyi < 0 → _) ∧ (¬ nI y + (I 45 2 - 1) * dyi < 0 → (I 45 1 ≤ nI y + (I 45 2 - 1) * dyi → _) ∧ (¬ I 45 1 ≤ nI y + (I 45 2 - 1) * dyi → (I 44 6 < nI 36 → _) ∧ (¬ I 44 6 < nI 36 → _))))
  rw [eX, eY, far, e0, e1, hl.1, ← iI_n (g 1), ← iI_n (g 2)]
  unfold lnEnd at hin
  have lw := iI_lt (a := (x : Int) + ((g 3 - 1 : Nat) : Int) * sDx d) (b := ((g 1 : Nat) : Int)) (by omega) (by omega) (by omega) (by omega)
  have l0 := iI_lt (a := (y : Int) + ((g 3 - 1 : Nat) : Int) * sDy d) (b := 0) (by omega) (by omega) (by omega) (by omega)
  have lh := iI_lt (a := (y : Int) + ((g 3 - 1 : Nat) : Int) * sDy d) (b := ((g 2 : Nat) : Int)) (by omega) (by omega) (by omega) (by omega)
  refine And.intro (fun c => b229_69 (stay ?_)) (fun c => And.intro (fun c2 => b229_69 (stay ?_)) (fun c2 => And.intro (fun c3 => b229_69 (stay ?_)) (fun c3 => ?_)))
  · rw [hin, decide_eq_false (fun z => Int32.not_lt.mpr c (lw.mpr z))]
    rfl
  · rw [hin, decide_eq_false (p := 0 ≤ _) (fun z => by have := l0.mp c2; omega)]
    exact Bool.and_false _
  · rw [hin, decide_eq_false (p := _ < ((g 2 : Nat) : Int)) (fun z => Int32.not_lt.mpr c3 (lh.mpr z)), Bool.and_false]
    exact Bool.and_false _
  · have ok : lnIn (g 1) (g 2) (g 3) (4 * (g 1 * y + x) + d) = true := by
      rw [hin, decide_eq_true (lw.mp (Int32.not_le.mp c)), decide_eq_true (p := 0 ≤ _) (by
        have : ¬ ((y : Int) + ((g 3 - 1 : Nat) : Int) * sDy d < 0) := fun w => c2 (l0.mpr w)
        omega), decide_eq_true (lh.mp (Int32.not_le.mp c3))]
      rfl
    refine pk_lt _ 36 (fun _ => b229_70 (loop ok _ _ (g 3) 0 0 (by omega) (by omega) (fun k => by rw [Nat.zero_testBit]; rfl))) (fun z => absurd z (by omega)) rfl rfl (by omega) (by omega)
theorem k_drawLinesP {W H : Nat} {P : Nat → zI → Prop} (hw : kDw (I 45 0) W) (hh : kDw (I 45 1) H) (step : ∀ (y x d : Nat) (dxi dyi : Int32) (J : zI) (post' : zPo), y < H → x < W → d < 4 → dxi = iI (sDx d) → dyi = iI (sDy d) → P (4 * (W * y + x) + d) J → J 45 = I 45 → (∀ J' : zI, P (4 * (W * y + x) + d + 1) J' → J' 45 = I 45 → post' none J' L (zR1 q)) → zC G n 229 [.ref 44, .int (nI x), .int (nI y), .int dxi, .int dyi] J L (zR1 q) post') (h0 : P 0 (zup I 44 6 0)) (h : ∀ I' : zI, P (4 * (W * H)) I' → post none I' L (zR1 q)) : zC G (n + 1) 228 [.ref 44] I L (zR1 q) post := by
  have hW3 : W ≤ 3 := by rcases hw with ⟨-, z⟩ | ⟨-, z⟩ <;> omega
  have hH3 : H ≤ 3 := by rcases hh with ⟨-, z⟩ | ⟨-, z⟩ <;> omega
  have outer : ∀ j y (J : zI) (v : Option Value), y + j = H → P (4 * (W * y)) J → J 45 = I 45 → zQ G 228 n post 7 [some (.ref 44), some (.int (nI y)), v] [] J L (zR1 q) := by
    intro j
    induction j with
    | zero =>
      intro y J v hy hP hJ
      refine b228_7 ?_
      show (J 45 1 ≤ nI y → _) ∧ (¬ J 45 1 ≤ nI y → _)
      rw [hJ]
      refine kDw_le hh (by omega) (fun _ => b228_75 (h J ?_)) (fun z => absurd z (by omega))
      rw [show y = H by omega] at hP
      exact hP
    | succ j ih =>
      intro y J v hy hP hJ
      have inner : ∀ i x (J : zI), x + i = W → P (4 * (W * y + x)) J → J 45 = I 45 → zQ G 228 n post 20 [some (.ref 44), some (.int (nI y)), some (.int (nI x))] [] J L (zR1 q) := by
        intro i
        induction i with
        | zero =>
          intro x J hx hP hJ
          refine b228_20 ?_
          show (J 45 0 ≤ nI x → _) ∧ (¬ J 45 0 ≤ nI x → _)
          rw [hJ]
          refine kDw_le hw (by omega) (fun _ => b228_69 ?_) (fun z => absurd z (by omega))
          have qq := fun v => ih (y + 1) J v (by omega) (by rw [Nat.mul_succ, ← show x = W by omega]; rw [show x = W by omega] at hP ⊢; exact hP) hJ
          rw [← nI_1] at qq
          exact qq _
        | succ i ih2 =>
          intro x J hx hP hJ
          refine b228_20 ?_
          show (J 45 0 ≤ nI x → _) ∧ (¬ J 45 0 ≤ nI x → _)
          rw [hJ]
          refine kDw_le hw (by omega) (fun z => absurd z (by omega)) (fun _ => ?_)
          refine step y x 0 _ _ J _ (by omega) (by omega) (by omega) (by decide) (by decide) hP hJ (fun J1 p1 j1 => ?_)
          refine step y x 1 _ _ J1 _ (by omega) (by omega) (by omega) (by decide) (by decide) p1 j1 (fun J2 p2 j2 => ?_)
          refine step y x 2 _ _ J2 _ (by omega) (by omega) (by omega) (by decide) (by decide) p2 j2 (fun J3 p3 j3 => ?_)
          refine step y x 3 _ _ J3 _ (by omega) (by omega) (by omega) (by decide) (by decide) p3 j3 (fun J4 p4 j4 => ?_)
          have qq := ih2 (x + 1) J4 (by omega) (by rw [show 4 * (W * y + (x + 1)) = 4 * (W * y + x) + 3 + 1 by omega]; exact p4) j4
          rw [← nI_1] at qq
          exact qq
      refine b228_7 ?_
      show (J 45 1 ≤ nI y → _) ∧ (¬ J 45 1 ≤ nI y → _)
      rw [hJ]
      refine kDw_le hh (by omega) (fun z => absurd z (by omega)) (fun _ => inner W 0 J (by omega) hP hJ)
  exact zin0 rfl rfl rfl (b228_0 (outer H 0 _ _ (by omega) h0 (zup_ne (by decide))))
theorem k_drawLines (hg : kG g I) (h : ∀ I' : zI, (g 0 = 0 → kLn g I') → zFr tDL I I' → post none I' L (zR1 q)) : zC G (n + 2) 228 [.ref 44] I L (zR1 q) post := by
  have t45 : ∀ {J J' : zI}, zFr tDL J J' → J' 45 = J 45 := fun hf => zFr_row hf fun _ => rfl
  rcases g0_01 hg.1 with c | c
  · obtain ⟨e0, e1, e2⟩ := hg.2.2.2.1 c
    obtain ⟨-, hw, hh, hk, -⟩ := hg.1
    refine k_drawLinesP (W := g 1) (H := g 2) (P := fun c J => kLk g c J ∧ zFr tDL I J) (.inl ⟨e0, hw.2⟩) (.inl ⟨e1, hh.2⟩) (fun y x d dxi dyi J post' hy hx hd hdx hdy hP hJ h' => ?_) ⟨⟨zup_self, fun j c' hj => by cases hj⟩, zFr_up (zFr_0 _ _) rfl⟩ (fun I' hP => h I' (fun _ => hP.1) hP.2)
    exact k_drawLine (kG_of hg hJ) c hx hy hd hdx hdy hP.1 (fun I' a b => h' I' ⟨a, zFr_tr hP.2 b⟩ ((t45 b).trans hJ))
  · obtain ⟨-, d0, d1, d2⟩ := hg.2.2.2.2 c
    obtain ⟨W, hW⟩ := kDk_w d0
    obtain ⟨H, hH⟩ := kDk_w d1
    refine k_drawLinesP (W := W) (H := H) (P := fun c J => (∃ c', c' ≤ 36 ∧ J 44 6 = nI c') ∧ zFr tDL I J) hW hH (fun y x d dxi dyi J post' hy hx hd hdx hdy hP hJ h' => ?_) ⟨⟨0, by omega, zup_self⟩, zFr_up (zFr_0 _ _) rfl⟩ (fun I' hP => h I' (fun z => by omega) hP.2)
    obtain ⟨⟨c', a1, a2⟩, a3⟩ := hP
    exact k_drawLineW (by rw [hJ]; exact d2) a2 a1 (fun c2 I' b1 b2 b3 => h' I' ⟨⟨c2, b2, b1⟩, zFr_tr a3 b3⟩ ((t45 b3).trans hJ))
end
