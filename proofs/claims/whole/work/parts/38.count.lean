-- ===== the reference: counting, what it knows =====
def sCB (f : Nat → Bool) : Nat → Nat
  | 0 => 0
  | n + 1 => sCB f n + (if f n = true then 1 else 0)
theorem sCB_le (f : Nat → Bool) : ∀ n, sCB f n ≤ n
  | 0 => Nat.le_refl _
  | n + 1 => by
    have := sCB_le f n
    rw [sCB]
    split <;> omega
def sWB (c : sC) (b : Nat) : Nat := sCB (fun k => decide (0 < c.1 (9 * b + k))) 9
def sCOf (c : sC) (mv : Option Nat) (b : Nat) : Bool := c.2.1 b && (match mv with
  | none => true
  | some v => decide (sWB c b = v))
def sCO (c : sC) (mv : Option Nat) : Nat := sCB (sCOf c mv) 19683
/-- beads of best moves in a box -/
def sBI (g : zg) (c : sC) (b : Nat) : Nat := sSum (fun m => if sBst g b m = true then c.1 (9 * b + m) else 0) (sMM g)
theorem sSum_mono {f f' : Nat → Nat} (h : ∀ k, f k ≤ f' k) : ∀ n, sSum f n ≤ sSum f' n
  | 0 => Nat.le_refl _
  | n + 1 => Nat.add_le_add (sSum_mono h n) (h n)
theorem sSum_len {f : Nat → Nat} {n m : Nat} (h : n ≤ m) : sSum f n ≤ sSum f m := by
  obtain ⟨k, rfl⟩ : ∃ k, m = n + k := ⟨m - n, by omega⟩
  induction k with
  | zero => exact Nat.le_refl _
  | succ k ih =>
    show sSum f n ≤ sSum f (n + k) + f (n + k)
    have := ih (by omega)
    omega
theorem sBI_le {g : zg} {c : sC} {b : Nat} (hg : gOk g) : sBI g c b ≤ sInB c b := by
  have hmm := sMM_pos hg
  refine Nat.le_trans (sSum_mono (f' := fun k => c.1 (9 * b + k)) (fun k => ?_) _) (sSum_len hmm.2)
  split <;> omega
def sCountV (x : Int32) (v : Nat → Int32) : Int32 := if 0 ≤ x ∧ x ≤ 16 then v x.toNatClampNeg else -1
section
variable {G : zG} {n : Nat} {I : zI} {L : zL} {q : zq} {post : zPo} {g : zg} {c : sC} {w : uW}
theorem c_countOpened {mv : Option Nat} (hmv : ∀ v, mv = some v → v ≤ 9) (hin : cAll c) (hc : mC c I) (h : post (some (.int (nI (sCO c mv)))) I L (zR1 q)) : zC G (n + 1) 83 [.ref 0, .int (zon mv)] I L (zR1 q) post := by
  have key : ∀ j i : Nat, i + j = 19683 → zQ G 83 n post 4 [some (.ref 0), some (.int (zon mv)), some (.int (nI (sCB (sCOf c mv) i))), some (.int (nI i)), none, none] [] I L (zR1 q) := by
    intro j
    induction j with
    | zero =>
      intro i hi
      refine b83_4 (pk_le 19683 i (fun _ => b83_92 ?_) (fun z => absurd z (by omega)) rfl rfl (by omega) (by omega))
      rw [show i = 19683 by omega]
      exact h
    | succ j ih =>
      intro i hi
      have eop : I 4 (nI i).toNatClampNeg = zbo (c.2.1 i) := by rw [nI_clamp (by omega)]; exact hc.2.1 _ (by omega)
      have p86 : ∀ x : Nat, x = sCB (sCOf c mv) (i + 1) → zQ G 83 n post 86 [some (.ref 0), some (.int (zon mv)), some (.int (nI x)), some (.int (nI i)), none, none] [] I L (zR1 q) := by
        intro x hx
        subst hx
        have qq := ih (i + 1) (by omega)
        rw [← nI_1] at qq
        exact b83_86 qq
      refine b83_4 (pk_le 19683 i (fun z => absurd z (by omega)) (fun _ => And.intro (vp_in_nI (by omega) (by decide)) ?_) rfl rfl (by omega) (by omega))
      show (¬ I 4 (nI i).toNatClampNeg = 0 → _) ∧ (I 4 (nI i).toNatClampNeg = 0 → _)
      rw [eop]
      refine zbo_ne (fun z => b83_23 ?_) (fun z => p86 _ ?_)
      · have inner : ∀ j k : Nat, k + j = 9 → zQ G 83 n post 29 [some (.ref 0), some (.int (zon mv)), some (.int (nI (sCB (sCOf c mv) i))), some (.int (nI i)), some (.int (nI (sCB (fun k => decide (0 < c.1 (9 * i + k))) k))), some (.int (nI k))] [] I L (zR1 q) := by
          intro j
          induction j with
          | zero =>
            intro k hk
            have e : k = 9 := by omega
            subst e
            have hle := sCB_le (fun k => decide (0 < c.1 (9 * i + k))) 9
            have es : sCB (sCOf c mv) (i + 1) = sCB (sCOf c mv) i + (if sCOf c mv i = true then 1 else 0) := rfl
            have p84 : ∀ (x : Int32) (y : Nat), x = nI y → y = (if sCOf c mv i = true then 1 else 0) → zQ G 83 n post 84 [some (.ref 0), some (.int (zon mv)), some (.int (nI (sCB (sCOf c mv) i))), some (.int (nI i)), some (.int (nI (sCB (fun k => decide (0 < c.1 (9 * i + k))) 9))), some (.int 9)] [.int x, .int (nI (sCB (sCOf c mv) i))] I L (zR1 q) := by
              intro x y hx hy
              subst hx
              have qq := p86 (sCB (sCOf c mv) i + y) (by rw [es, hy])
              rw [← nI_add] at qq
              exact b83_84 (zP_lv (by exact ⟨rfl, rfl, rfl, rfl, trivial⟩) qq)
            refine b83_29 (pk_le 9 9 (fun _ => b83_67 ?_) (fun z => absurd z (by omega)) rfl rfl (by omega) (by omega))
            cases mv with
            | none =>
              refine And.intro (fun _ => b83_79 (p84 1 1 rfl ?_)) (fun z2 => absurd rfl z2)
              rw [if_pos (by show (c.2.1 i && true) = true; rw [z]; rfl)]
            | some v =>
              have hv := hmv v rfl
              refine And.intro (fun z2 => absurd z2 (zon_ne (by omega))) (fun _ => ?_)
              refine pk_ne (sWB c i) v (fun z2 => b83_83 (p84 0 0 rfl ?_)) (fun z2 => b83_79 (p84 1 1 rfl ?_)) rfl rfl (by unfold sWB; omega) (by omega)
              · rw [if_neg (by show ¬ (c.2.1 i && decide (sWB c i = v)) = true; rw [decide_eq_false z2, Bool.and_false]; exact Bool.false_ne_true)]
              · rw [if_pos (by show (c.2.1 i && decide (sWB c i = v)) = true; rw [decide_eq_true z2, z]; rfl)]
          | succ j ihk =>
            intro k hk
            have e9 : (9 : Int32) * nI i + nI k = nI (9 * i + k) := by rw [show (9 : Int32) = nI 9 from rfl, pk_mul, nI_add]
            have hk0 : 9 * i + k < 177147 := by omega
            have hbd := cAll_bd hin hk0
            have eb : I 5 ((9 : Int32) * nI i + nI k).toNatClampNeg = nI (c.1 (9 * i + k)) := by rw [e9, nI_clamp (by omega)]; exact hc.1 _ hk0
            have p58 : ∀ (x : Int32) (y : Nat), x = nI y → y = (if decide (0 < c.1 (9 * i + k)) = true then 1 else 0) → zQ G 83 n post 58 [some (.ref 0), some (.int (zon mv)), some (.int (nI (sCB (sCOf c mv) i))), some (.int (nI i)), some (.int (nI (sCB (fun k => decide (0 < c.1 (9 * i + k))) k))), some (.int (nI k))] [.int x, .int (nI (sCB (fun k => decide (0 < c.1 (9 * i + k))) k))] I L (zR1 q) := by
              intro x y hx hy
              subst hx
              have qq := ihk (k + 1) (by omega)
              rw [← nI_1, show sCB (fun k => decide (0 < c.1 (9 * i + k))) (k + 1) = sCB (fun k => decide (0 < c.1 (9 * i + k))) k + y by rw [sCB, hy], ← nI_add] at qq
              exact b83_58 qq
            refine b83_29 (pk_le 9 k (fun z => absurd z (by omega)) (fun _ => And.intro (by rw [e9]; exact vp_in_nI hk0 (by decide)) ?_) rfl rfl (by omega) (by omega))
            refine pk_le (c.1 (9 * i + k)) 0 (fun z2 => b83_57 (p58 0 0 rfl ?_)) (fun z2 => p58 1 1 rfl ?_) eb rfl (by omega) (by omega)
            · rw [if_neg (by rw [decide_eq_false (by omega)]; exact Bool.false_ne_true)]
            · rw [if_pos (decide_eq_true z2)]
        exact inner 9 0 (by omega)
      · rw [sCB, if_neg (by unfold sCOf; rw [z]; exact Bool.false_ne_true)]
        rfl
  exact zin0 rfl rfl rfl (b83_0 (zP_lv (by exact ⟨rfl, rfl, rfl, rfl, trivial⟩) (key 19683 0 (by omega))))
theorem c_bestIn {b : Nat} (hg : mG g I) (hm : mPos g I) (hr : sR g b) (hw : sWork g b < 2) (hc : mC c I) (h : post (some (.int (nI (sBI g c b)))) I L (zR1 q)) : zC G (n + 7) 106 [.ref 0, .int (nI b)] I L (zR1 q) post := by
  have hb := sR_lt hg.1 hr
  have hmm := sMM_pos hg.1
  have key : ∀ j i : Nat, i + j = sMM g → zQ G 106 (n + 6) post 4 [some (.ref 0), some (.int (nI b)), some (.int (nI (sSum (fun m => if sBst g b m = true then c.1 (9 * b + m) else 0) i))), some (.int (nI i))] [] I L (zR1 q) := by
    intro j
    induction j with
    | zero =>
      intro i hi
      refine b106_4 (c_moveMany hg (pk_le (sMM g) i (fun _ => b106_41 ?_) (fun z => absurd z (by omega)) rfl rfl (by omega) (by omega)))
      rw [show i = sMM g by omega]
      exact h
    | succ j ih =>
      intro i hi
      have qq := ih (i + 1) (by omega)
      have es : sSum (fun m => if sBst g b m = true then c.1 (9 * b + m) else 0) (i + 1) = sSum (fun m => if sBst g b m = true then c.1 (9 * b + m) else 0) i + (if sBst g b i = true then c.1 (9 * b + i) else 0) := rfl
      rw [← nI_1, es] at qq
      have e9 : (9 : Int32) * nI b + nI i = nI (9 * b + i) := by rw [show (9 : Int32) = nI 9 from rfl, pk_mul, nI_add]
      have hk0 : 9 * b + i < 177147 := by omega
      have eb : I 5 ((9 : Int32) * nI b + nI i).toNatClampNeg = nI (c.1 (9 * b + i)) := by rw [e9, nI_clamp (by omega)]; exact hc.1 _ hk0
      refine b106_4 (c_moveMany hg (pk_le (sMM g) i (fun z => absurd z (by omega)) (fun _ => c_isBest hg hm hr hw (by omega) (zbo_eq (fun z => b106_35 ?_) (fun z => And.intro (by rw [e9]; exact vp_in_nI hk0 (by decide)) (b106_35 ?_)))) rfl rfl (by omega) (by omega)))
      · rw [if_neg (by rw [z]; exact Bool.false_ne_true), Nat.add_zero] at qq
        exact qq
      · rw [if_pos z, ← nI_add, ← eb] at qq
        exact qq
  exact zin0 rfl rfl rfl (b106_0 (key (sMM g) 0 (by omega)))
/-- what telling touches -/
def tT (o k : Nat) : Bool := Nat.beq o 0 && (Nat.beq k 33 || Nat.beq k 34)
theorem zFr_tell {I' : zI} (h : ∀ o k, ¬ (o = 0 ∧ k = 33) → I' o k = I o k) : zFr tT I I' := fun o k z => h o k fun ⟨a, b⟩ => by
  subst a b
  cases z
/-- telling numbers, one after the other -/
theorem mRow_0 {I' : zI} (h : I' 0 33 = 0) : mRow [] I' L := ⟨h, fun i x hx => by cases hx⟩
def sKn (g : zg) (c : sC) (b : Nat) : Bool := c.2.1 b && decide (sInB c b ≠ 0)
def sKA (g : zg) (c : sC) : Nat := sCB (fun b => sKn g c b && decide (sBI g c b = sInB c b)) 19683
def sKS (g : zg) (c : sC) : Nat := sCB (fun b => sKn g c b && (!decide (sBI g c b = sInB c b) && decide (0 < sBI g c b))) 19683
def sKN (g : zg) (c : sC) : Nat := sCB (fun b => sKn g c b && (!decide (sBI g c b = sInB c b) && !decide (0 < sBI g c b))) 19683
theorem c_knows (hg : mG g I) (hm : mPos g I) (hin : cIn g c) (hc : mC c I) (h : ∀ (I' : zI) (L' : zL), mRow [(nI (sKS g c)).toInt64, (nI (sKN g c)).toInt64] I' L' → I' 0 34 = 0 → zFr tT I I' → (∀ o, o ≠ 17 → L' o = L o) → post (some (.int (nI (sKA g c)))) I' L' (zR1 q)) : zC G (n + 8) 107 [.ref 0] I L (zR1 q) post := by
  have h8 := hg.1.2.2.2.2.2.2.2.2
  have hg' := mG_34 hg (v := 0)
  have hm' := mPos_34 (v := 0) hm
  have hc' := mC_34 (v := 0) hc
  have key : ∀ j i : Nat, i + j = 19683 → zQ G 107 (n + 7) post 14 [some (.ref 0), some (.int (nI (sCB (fun b => sKn g c b && decide (sBI g c b = sInB c b)) i))), some (.int (nI (sCB (fun b => sKn g c b && (!decide (sBI g c b = sInB c b) && decide (0 < sBI g c b))) i))), some (.int (nI (sCB (fun b => sKn g c b && (!decide (sBI g c b = sInB c b) && !decide (0 < sBI g c b))) i))), some (.int (nI i)), none] [] (zup I 0 34 0) L (zR1 q) := by
    intro j
    induction j with
    | zero =>
      intro i hi
      have e : i = 19683 := by omega
      subst e
      refine b107_14 (pk_le 19683 19683 (fun _ => b107_89 ?_) (fun z => absurd z (by omega)) rfl rfl (by omega) (by omega))
      refine c_tell (l := []) (mRow_0 zup_self) (by show 0 < 32; omega) fun I1 L1 hr1 hf1 hl1 => ?_
      refine c_tell hr1 (by show 1 < 32; omega) fun I2 L2 hr2 hf2 hl2 => ?_
      refine h I2 L2 hr2 ?_ ?_ fun o ho => (hl2 o ho).trans (hl1 o ho)
      · rw [hf2 0 34 (by omega), hf1 0 34 (by omega)]
        rfl
      · exact zFr_tr (zFr_up (zFr_up (zFr_0 _ _) rfl) rfl) (zFr_tr (zFr_tell hf1) (zFr_tell hf2))
    | succ j ih =>
      intro i hi
      have hin19 : vp_in (nI i) 19683 := vp_in_nI (by omega) (by decide)
      have eop : zup I 0 34 0 4 (nI i).toNatClampNeg = zbo (c.2.1 i) := by rw [nI_clamp (by omega)]; exact hc'.2.1 _ (by omega)
      have qq := ih (i + 1) (by omega)
      rw [← nI_1, sCB, sCB, sCB] at qq
      have skip : sKn g c i = false → zQ G 107 (n + 7) post 83 [some (.ref 0), some (.int (nI (sCB (fun b => sKn g c b && decide (sBI g c b = sInB c b)) i))), some (.int (nI (sCB (fun b => sKn g c b && (!decide (sBI g c b = sInB c b) && decide (0 < sBI g c b))) i))), some (.int (nI (sCB (fun b => sKn g c b && (!decide (sBI g c b = sInB c b) && !decide (0 < sBI g c b))) i))), some (.int (nI i)), none] [] (zup I 0 34 0) L (zR1 q) := by
        intro z
        rw [if_neg (by rw [z]; exact Bool.false_ne_true), if_neg (by rw [z]; exact Bool.false_ne_true), if_neg (by rw [z]; exact Bool.false_ne_true), Nat.add_zero, Nat.add_zero, Nat.add_zero] at qq
        exact b107_83 qq
      refine b107_14 (pk_le 19683 i (fun z => absurd z (by omega)) (fun _ => And.intro hin19 ?_) rfl rfl (by omega) (by omega))
      show (zup I 0 34 0 4 (nI i).toNatClampNeg = 0 → _) ∧ (¬ zup I 0 34 0 4 (nI i).toNatClampNeg = 0 → _)
      rw [eop]
      refine zbo_eq (fun z => skip ?_) (fun z => ?_)
      · unfold sKn
        rw [z]
        rfl
      · have hi9 : i < 19683 := by omega
        have hib := sInB_le hin.1 hi9
        refine c_inBox hi9 hc' ?_
        refine pk_ne (sInB c i) 0 (fun z2 => b107_44 ?_) (fun z2 => skip ?_) rfl rfl (by omega) (by omega)
        · have ek : sKn g c i = true := by unfold sKn; rw [z, decide_eq_true z2]; rfl
          obtain ⟨hr, hbx, hw⟩ := hin.2.1 i z
          have hbl := sBI_le (c := c) (b := i) hg.1
          refine c_bestIn hg' hm' hr (by omega) hc' (c_inBox hi9 hc' ?_)
          refine pk_ne (sBI g c i) (sInB c i) (fun z3 => b107_69 ?_) (fun z3 => ?_) rfl rfl (by omega) (by omega)
          · refine pk_le (sBI g c i) 0 (fun z4 => b107_80 (b107_83 ?_)) (fun z4 => b107_83 ?_) rfl rfl (by omega) (by omega)
            · rw [if_neg (by rw [decide_eq_false z3, Bool.and_false]; exact Bool.false_ne_true), if_neg (by rw [decide_eq_false (p := 0 < sBI g c i) (by omega), Bool.and_false, Bool.and_false]; exact Bool.false_ne_true), if_pos (by rw [ek, decide_eq_false z3, decide_eq_false (p := 0 < sBI g c i) (by omega)]; rfl), Nat.add_zero, Nat.add_zero, ← nI_1 (sCB (fun b => sKn g c b && (!decide (sBI g c b = sInB c b) && !decide (0 < sBI g c b))) i)] at qq
              exact zP_lv (by exact ⟨rfl, rfl, rfl, rfl, rfl, trivial⟩) qq
            · rw [if_neg (by rw [decide_eq_false z3, Bool.and_false]; exact Bool.false_ne_true), if_pos (by rw [ek, decide_eq_false z3, decide_eq_true z4]; rfl), if_neg (by rw [decide_eq_true z4]; show ¬ (sKn g c i && (!decide (sBI g c i = sInB c i) && false)) = true; rw [Bool.and_false, Bool.and_false]; exact Bool.false_ne_true), Nat.add_zero, Nat.add_zero, ← nI_1 (sCB (fun b => sKn g c b && (!decide (sBI g c b = sInB c b) && decide (0 < sBI g c b))) i)] at qq
              exact zP_lv (by exact ⟨rfl, rfl, rfl, rfl, rfl, trivial⟩) qq
          · rw [if_pos (by rw [ek, decide_eq_true z3]; rfl), if_neg (by rw [decide_eq_true z3]; show ¬ (sKn g c i && (false && decide (0 < sBI g c i))) = true; rw [Bool.false_and, Bool.and_false]; exact Bool.false_ne_true), if_neg (by rw [decide_eq_true z3]; show ¬ (sKn g c i && (false && !decide (0 < sBI g c i))) = true; rw [Bool.false_and, Bool.and_false]; exact Bool.false_ne_true), Nat.add_zero, Nat.add_zero, ← nI_1 (sCB (fun b => sKn g c b && decide (sBI g c b = sInB c b)) i)] at qq
            exact b107_83 (zP_lv (by exact ⟨rfl, rfl, rfl, rfl, rfl, trivial⟩) qq)
        · unfold sKn
          rw [decide_eq_false (by omega), Bool.and_false]
  refine zin0 rfl rfl rfl (b107_0 ?_)
  exact zP_lv (by exact ⟨rfl, rfl, rfl, rfl, rfl, trivial⟩) (key 19683 0 (by omega))
theorem c_share {x : Int32} (hg : mG g I) (hm : mPos g I) (hin : cIn g c) (hc : mC c I) (h1 : ∀ p, x = nI p → sR g p → sWork g p = g 8 → post (some (.int (if c.2.1 (sBox g p) = true ∧ sInB c (sBox g p) ≠ 0 then nI (1000 * sBI g c (sBox g p) / sInB c (sBox g p)) else -2))) (zup I 0 34 0) L (zR1 q)) (h0 : (∀ p, x = nI p → p < 2 ^ 31 → sR g p → sWork g p ≠ g 8) → post (some (.int (-1))) (zup I 0 34 0) L (zR1 q)) : zC G (n + 8) 108 [.ref 0, .int x] I L (zR1 q) post := by
  have hg' := mG_34 hg (v := 0)
  have hm' := mPos_34 (v := 0) hm
  have hc' := mC_34 (v := 0) hc
  have h8 := hg.1.2.2.2.2.2.2.2.2
  refine zin0 rfl rfl rfl (b108_0 (c_isMine hg' hm' (fun p hx hr hw => ?_) (fun hn => ?_)))
  · subst hx
    have qq := h1 p rfl hr hw
    have hp1 := sR_lt hg.1 hr
    obtain ⟨b1, b2, b3, b4⟩ := gR_box hg.1 hr
    have hb1 := sR_lt hg.1 b1
    have hib := sInB_le hin.1 hb1
    have hbl := sBI_le (c := c) (b := sBox g p) hg.1
    have eop : zup I 0 34 0 4 (nI (sBox g p)).toNatClampNeg = zbo (c.2.1 (sBox g p)) := by rw [nI_clamp (by omega)]; exact hc'.2.1 _ hb1
    refine And.intro (fun _ => b108_15 (c_boxOf hg' hp1 (And.intro (vp_in_nI hb1 (by decide)) ?_))) (fun z => absurd z (by decide))
    show (zup I 0 34 0 4 (nI (sBox g p)).toNatClampNeg = 0 → _) ∧ (¬ zup I 0 34 0 4 (nI (sBox g p)).toNatClampNeg = 0 → _)
    rw [eop]
    refine zbo_eq (fun z => b108_38 (b108_61 ?_)) (fun z => c_inBox hb1 hc' ?_)
    · rw [if_neg (by rw [z]; exact fun w => Bool.false_ne_true w.1)] at qq
      exact qq
    · refine pk_ne (sInB c (sBox g p)) 0 (fun z2 => b108_43 ?_) (fun z2 => b108_38 (b108_61 ?_)) rfl rfl (by omega) (by omega)
      · rw [if_pos ⟨z, z2⟩] at qq
        refine c_bestIn hg' hm' b1 (by omega) hc' (c_inBox hb1 hc' ?_)
        have e1 : (nI (sInB c (sBox g p))).toInt64 = lN (sInB c (sBox g p)) := nI_l (by omega)
        have e2 : (nI (sBI g c (sBox g p))).toInt64 = lN (sBI g c (sBox g p)) := nI_l (by omega)
        have e3 : (1000 : Int64) * lN (sBI g c (sBox g p)) = lN (1000 * sBI g c (sBox g p)) := by
          show Int64.ofNat 1000 * Int64.ofNat _ = Int64.ofNat _
          rw [Int64.ofNat_mul]
        refine And.intro ?_ (b108_61 ?_)
        · show ¬ (nI (sInB c (sBox g p))).toInt64 = 0
          rw [e1]
          exact fun w => z2 ((pk_lEQ (b := 0) (by omega) (by omega)).mp w)
        · have e4 : ((1000 : Int64) * (nI (sBI g c (sBox g p))).toInt64 / (nI (sInB c (sBox g p))).toInt64).toInt32 = nI (1000 * sBI g c (sBox g p) / sInB c (sBox g p)) := by
            rw [e1, e2, e3, pk_lDiv (by omega) (by omega) (by omega), lN_i]
          rw [← e4] at qq
          exact qq
      · rw [if_neg (fun w => w.2 z2)] at qq
        exact qq
  · exact And.intro (fun z => absurd rfl z) (fun _ => h0 hn)
/-- the first move with beads that loses value, among the first n -/
def sErs (g : zg) (c : sC) (p : Nat) : Nat → Option Nat
  | 0 => none
  | m + 1 => match sErs g c p m with
    | some k => some k
    | none => if sCan g p m = true ∧ sBst g p m = false ∧ 0 < c.1 (sAtB g p m) then some m else none
theorem sErs_more {g : zg} {c : sC} {p i m : Nat} (h : sErs g c p i = some m) : ∀ j, sErs g c p (i + j) = some m
  | 0 => h
  | j + 1 => by
    show (match sErs g c p (i + j) with | some m => some m | none => _) = _
    rw [sErs_more h j]
def zo2 (q : Option Nat) : Int32 := match q with
  | some k => nI k
  | none => -2
theorem c_errs {x : Int32} (hg : mG g I) (hm : mPos g I) (hin : cIn g c) (hc : mC c I) (h1 : ∀ p, x = nI p → sR g p → sWork g p = g 8 → c.2.1 (sBox g p) = true → post (some (.int (zo2 (sErs g c p (sMM g))))) (zup I 0 34 0) L (zR1 q)) (h0 : (∀ p, x = nI p → p < 2 ^ 31 → sR g p → sWork g p = g 8 → c.2.1 (sBox g p) = false) → post (some (.int (-1))) (zup I 0 34 0) L (zR1 q)) : zC G (n + 7) 109 [.ref 0, .int x] I L (zR1 q) post := by
  have hg' := mG_34 hg (v := 0)
  have hm' := mPos_34 (v := 0) hm
  have hc' := mC_34 (v := 0) hc
  have h8 := hg.1.2.2.2.2.2.2.2.2
  have hmm := sMM_pos hg.1
  refine zin0 rfl rfl rfl (b109_0 (c_isMine hg' hm' (fun p hx hr hw => ?_) (fun hn => ?_)))
  · subst hx
    have hp := sR_ok hg.1 hr
    have hp1 := hp.1
    obtain ⟨b1, b2, b3, b4⟩ := gR_box hg.1 hr
    have hb1 := sR_lt hg.1 b1
    have eop : zup I 0 34 0 4 (nI (sBox g p)).toNatClampNeg = zbo (c.2.1 (sBox g p)) := by rw [nI_clamp (by omega)]; exact hc'.2.1 _ hb1
    refine And.intro (fun z => absurd z (by decide)) (fun _ => c_boxOf hg' hp1 (And.intro (vp_in_nI hb1 (by decide)) ?_))
    show (¬ zup I 0 34 0 4 (nI (sBox g p)).toNatClampNeg = 0 → _) ∧ (zup I 0 34 0 4 (nI (sBox g p)).toNatClampNeg = 0 → _)
    rw [eop]
    refine zbo_ne (fun z => b109_28 ?_) (fun z => b109_26 (h0 fun p' hx' hp' _ _ => by rw [← nI_inj (by omega) hp' hx']; exact z))
    have qq := h1 p rfl hr hw z
    have key : ∀ j i : Nat, i + j = sMM g → sErs g c p i = none → zQ G 109 (n + 6) post 30 [some (.ref 0), some (.int (nI p)), some (.int (nI i))] [] (zup I 0 34 0) L (zR1 q) := by
      intro j
      induction j with
      | zero =>
        intro i hi hn
        refine b109_30 (c_moveMany hg' (pk_le (sMM g) i (fun _ => b109_78 ?_) (fun z => absurd z (by omega)) rfl rfl (by omega) (by omega)))
        rw [show sMM g = i by omega, hn] at qq
        exact qq
      | succ j ih =>
        intro i hi hn
        have es : sErs g c p (i + 1) = if sCan g p i = true ∧ sBst g p i = false ∧ 0 < c.1 (sAtB g p i) then some i else none := by rw [sErs, hn]
        have skip : ¬ (sCan g p i = true ∧ sBst g p i = false ∧ 0 < c.1 (sAtB g p i)) → zQ G 109 (n + 6) post 72 [some (.ref 0), some (.int (nI p)), some (.int (nI i))] [] (zup I 0 34 0) L (zR1 q) := by
          intro z2
          rw [if_neg z2] at es
          have q2 := ih (i + 1) (by omega) es
          rw [← nI_1] at q2
          exact b109_72 q2
        refine b109_30 (c_moveMany hg' (pk_le (sMM g) i (fun z => absurd z (by omega)) (fun _ => c_can hg' hp (by omega) (zbo_eq (fun z2 => skip fun w => by rw [z2] at w; cases w.1) (fun z2 => c_isBest hg' hm' hr (by omega) (by omega) (zbo_ne (fun z3 => skip fun w => by rw [z3] at w; cases w.2.1) (fun z3 => c_at hg' hp1 (by omega) ?_))))) rfl rfl (by omega) (by omega)))
        have hat := sAtB_lt hg.1 hr z2
        have hbd := cAll_bd hin.1 hat
        have e5 : zup I 0 34 0 5 (nI (sAtB g p i)).toNatClampNeg = nI (c.1 (sAtB g p i)) := by rw [nI_clamp (by omega)]; exact hc'.1 _ hat
        refine And.intro (vp_in_nI hat (by decide)) ?_
        refine pk_le (c.1 (sAtB g p i)) 0 (fun z4 => skip fun w => by omega) (fun z4 => ?_) e5 rfl (by omega) (by omega)
        rw [if_pos ⟨z2, z3, z4⟩] at es
        have e := sErs_more es j
        rw [show i + 1 + j = sMM g by omega] at e
        rw [e] at qq
        exact qq
    exact key (sMM g) 0 (by omega) rfl
  · exact And.intro (fun _ => b109_26 (h0 fun p hx hp hr hw => absurd hw (hn p hx hp hr))) (fun z => absurd rfl z)
/-- the best moves, ascending -/
def sBL (g : zg) (p : Nat) : Nat → List Int64
  | 0 => []
  | m + 1 => if sBst g p m = true then sBL g p m ++ [(nI m).toInt64] else sBL g p m
theorem sBL_len (g : zg) (p : Nat) : ∀ m, (sBL g p m).length ≤ m
  | 0 => Nat.le_refl _
  | m + 1 => by
    have := sBL_len g p m
    rw [sBL]
    split
    · rw [snoc_len]; omega
    · omega
theorem c_value {x : Int32} (hg : mG g I) (hm : mPos g I) (h1 : ∀ p, x = nI p → sR g p → sWork g p < 2 → ∀ (I' : zI) (L' : zL), mRow (sBL g p (sMM g)) I' L' → I' 0 34 = 0 → zFr tT I I' → (∀ o, o ≠ 17 → L' o = L o) → post (some (.int (nI (sVal g p)))) I' L' (zR1 q)) (h0 : (∀ p, x = nI p → p < 2 ^ 31 → sR g p → 2 ≤ sWork g p) → post (some (.int (-1))) (zup I 0 34 0) L (zR1 q)) : zC G (n + 7) 66 [.ref 0, .int x] I L (zR1 q) post := by
  have hg' := mG_34 hg (v := 0)
  have hm' := mPos_34 (v := 0) hm
  have hmm := sMM_pos hg.1
  refine zin0 rfl rfl rfl (b66_0 (c_goesOn hg.1 hm' (fun p hx hr hw => ?_) (fun hn => ?_)))
  · subst hx
    have hp1 := sR_lt hg.1 hr
    have qq := h1 p rfl hr hw
    have key : ∀ j i : Nat, i + j = sMM g → ∀ (I' : zI) (L' : zL), mRow (sBL g p i) I' L' → I' 0 34 = 0 → zFr tT I I' → (∀ o, o ≠ 17 → L' o = L o) → zQ G 66 (n + 6) post 22 [some (.ref 0), some (.int (nI p)), some (.int (nI i))] [] I' L' (zR1 q) := by
      intro j
      induction j with
      | zero =>
        intro i hi I' L' hr' h34 hf' hl'
        have hg2 : mG g I' := ⟨hg.1, fun k hk => (hf' 0 k ((by decide : ∀ k, k < 9 → tT 0 k = false) k hk)).trans (hg.2 k hk)⟩
        have e3 : I' 3 (nI p).toNatClampNeg = nI (sVal g p) := by
          rw [nI_clamp (by omega), hf' 3 p rfl]
          exact (mPos_R hg.1 hm hr).2.2 hw
        have e : i = sMM g := by omega
        subst e
        refine b66_22 (c_moveMany hg2 (pk_le (sMM g) (sMM g) (fun _ => b66_51 (And.intro (vp_in_nI hp1 (by decide)) ?_)) (fun z => absurd z (by omega)) rfl rfl (by omega) (by omega)))
        have q2 := qq I' L' hr' h34 hf' hl'
        rw [← e3] at q2
        exact q2
      | succ j ih =>
        intro i hi I' L' hr' h34 hf' hl'
        have hg2 : mG g I' := ⟨hg.1, fun k hk => (hf' 0 k ((by decide : ∀ k, k < 9 → tT 0 k = false) k hk)).trans (hg.2 k hk)⟩
        have hm2 : mPos g I' := mPos_of hm (zFr_row hf' fun _ => rfl) (zFr_row hf' fun _ => rfl) (zFr_row hf' fun _ => rfl)
        have hll := sBL_len g p i
        refine b66_22 (c_moveMany hg2 (pk_le (sMM g) i (fun z => absurd z (by omega)) (fun _ => c_isBest hg2 hm2 hr hw (by omega) (zbo_eq (fun z => b66_45 ?_) (fun z => ?_))) rfl rfl (by omega) (by omega)))
        · have q2 := ih (i + 1) (by omega) I' L' (by rw [sBL, if_neg (by rw [z]; exact Bool.false_ne_true)]; exact hr') h34 hf' hl'
          rw [← nI_1] at q2
          exact q2
        · refine c_tell hr' (by omega) fun I2 L2 hr2 hf2 hl2 => b66_45 ?_
          have q2 := ih (i + 1) (by omega) I2 L2 (by rw [sBL, if_pos z]; exact hr2) (by rw [hf2 0 34 (by omega)]; exact h34) (zFr_tr hf' (zFr_tell hf2)) (fun o ho => (hl2 o ho).trans (hl' o ho))
          rw [← nI_1] at q2
          exact q2
    refine And.intro (fun _ => b66_15 ?_) (fun z => absurd z (by decide))
    exact key (sMM g) 0 (by omega) (zup (zup I 0 34 0) 0 33 0) L (mRow_0 zup_self) rfl (zFr_up (zFr_up (zFr_0 _ _) rfl) rfl) (fun _ _ => rfl)
  · exact And.intro (fun z => absurd rfl z) (fun _ => h0 hn)
end
