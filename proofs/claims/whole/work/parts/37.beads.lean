-- ===== the reference: whose box, beads, open, put, out =====
theorem in_out {x : Int32} {n : Nat} (hn : n < 2 ^ 30) (h : x < 0 ∨ nI n ≤ x) : decide ((0 : Int32) ≤ x ∧ x ≤ nI n - 1) = false := by
  refine decide_eq_false fun z => ?_
  rcases h with c | c
  · exact Int32.not_lt.mpr z.1 c
  · have a := Int32.le_iff_toInt_le.mp z.2
    have b := Int32.le_iff_toInt_le.mp c
    rw [show nI n - 1 = nI n - nI 1 from rfl, pk_sub_toInt hn (by decide)] at a
    rw [nI_toInt (by omega)] at b
    omega
theorem sCanX_t {g : zg} {p : Nat} {x : Int32} (h : sCanX g p x = true) : ∃ m, x = nI m ∧ m < 2 ^ 31 ∧ sCan g p m = true := by
  obtain ⟨a, b⟩ := Bool.and_eq_true_iff.mp h
  obtain ⟨m, h1, h2⟩ := nI_of (Int32.not_lt.mpr (of_decide_eq_true a))
  subst h2
  rw [nI_clamp h1] at b
  exact ⟨m, rfl, h1, b⟩
theorem sCanX_f {g : zg} {p : Nat} {x : Int32} (h : sCanX g p x = false) {m : Nat} (hx : x = nI m) (hm : m < 2 ^ 31) : sCan g p m = false := by
  subst hx
  rw [sCanX_nI hm] at h
  exact h
theorem nI_inj {a b : Nat} (ha : a < 2 ^ 31) (hb : b < 2 ^ 31) (h : nI a = nI b) : a = b := (nI_eq ha hb).mp h
/-- an int that is no number of those -/
def xOut (x : Int32) (n : Nat) : Prop := x < 0 ∨ nI n ≤ x
theorem xOut_no {x : Int32} {n k : Nat} (hk : k < n) (hn : n < 2 ^ 31) (hx : x = nI k) : ¬ xOut x n := by
  subst hx
  rintro (c | c)
  · exact nI_pos (by omega) c
  · rw [nI_leI hn (by omega)] at c
    omega
/-- a move of a position of the chest's that can be done -/
def xMine (g : zg) (x y : Int32) (p m : Nat) : Prop := x = nI p ∧ y = nI m ∧ m < 2 ^ 31 ∧ sR g p ∧ sWork g p = g 8 ∧ sCan g p m = true
section
variable {G : zG} {n : Nat} {I : zI} {L : zL} {q : zq} {post : zPo} {g : zg} {c : sC} {w : uW}
theorem c_isFoe1 {f nf : Nat} (hf : f < nf) (h8 : nf ≤ 8) (h23 : I 0 23 = nI nf) (h : post (some (.int 1)) I L (zR1 q)) : zC G (n + 2) 73 [.ref 0, .int (nI f)] I L (zR1 q) post := by
  refine zin0 rfl rfl rfl (b73_0 ?_)
  show zC G (n + 1) 2 [.int (nI f), .int 0, .int (I 0 23 - 1)] I L (zR1 q) _
  rw [h23]
  refine c_inN (x := f) (lo := 0) (hi := nf - 1) rfl rfl (pk_sub (b := 1) (by omega)) (by omega) (by omega) (by omega) ?_
  rw [decide_eq_true (by omega)]
  exact And.intro rfl h
theorem c_isFoe0 {x : Int32} {nf : Nat} (h8 : nf ≤ 8) (h23 : I 0 23 = nI nf) (hx : xOut x nf) (h : post (some (.int 0)) I L (zR1 q)) : zC G (n + 2) 73 [.ref 0, .int x] I L (zR1 q) post := by
  refine zin0 rfl rfl rfl (b73_0 ?_)
  show zC G (n + 1) 2 [.int x, .int 0, .int (I 0 23 - 1)] I L (zR1 q) _
  rw [h23]
  refine c_in ?_
  rw [in_out (by omega) hx]
  exact And.intro rfl h
theorem c_isMine {x : Int32} (hg : mG g I) (hm : mPos g I) (h1 : ∀ p, x = nI p → sR g p → sWork g p = g 8 → post (some (.int 1)) I L (zR1 q)) (h0 : (∀ p, x = nI p → p < 2 ^ 31 → sR g p → sWork g p ≠ g 8) → post (some (.int 0)) I L (zR1 q)) : zC G (n + 4) 76 [.ref 0, .int x] I L (zR1 q) post := by
  have h8 := hg.1.2.2.2.2.2.2.2.2
  refine zin0 rfl rfl rfl (b76_0 (c_goesOn hg.1 hm (fun p hx hr hw => ?_) (fun hn => ?_)))
  · subst hx
    have hp := sR_lt hg.1 hr
    refine And.intro (fun z => absurd z (by decide)) (fun _ => And.intro (vp_in_nI hp (by decide)) ?_)
    refine pk_ne (sWork g p) (g 8) (fun z => b76_25 (b76_26 (And.intro rfl (h0 fun p' hx hlt _ => ?_)))) (fun z => b76_26 (And.intro rfl (h1 p rfl hr z))) (by rw [nI_clamp (by omega)]; exact (mPos_R hg.1 hm hr).2.1) (mG0 hg 8 (by decide)) (by omega) (by omega)
    rw [← (nI_eq (by omega) hlt).mp hx]
    exact z
  · refine And.intro (fun _ => b76_25 (b76_26 (And.intro rfl (h0 fun p hx hlt hr z => ?_)))) (fun z => absurd rfl z)
    have := hn p hx hlt hr
    omega
theorem mC_34 {v : Int32} (h : mC c I) : mC c (zup I 0 34 v) := mC_of h (zup_ne (by decide)) (zup_ne (by decide)) rfl rfl rfl
theorem mF_34 {f : Nat → Nat} {v : Int32} (h : mF f I) : mF f (zup I 0 34 v) := fun s hs => ⟨by rw [zup_ne (by decide)]; exact (h s hs).1, (h s hs).2⟩
theorem c_beads {x y : Int32} (hg : mG g I) (hm : mPos g I) (hc : mC c I) (h1 : ∀ p m, xMine g x y p m → post (some (.int (if c.2.1 (sBox g p) = true then nI (c.1 (sAtB g p m)) else -2))) (zup I 0 34 0) L (zR1 q)) (h0 : (∀ p m, p < 2 ^ 31 → ¬ xMine g x y p m) → post (some (.int (-1))) (zup I 0 34 0) L (zR1 q)) : zC G (n + 6) 77 [.ref 0, .int x, .int y] I L (zR1 q) post := by
  have hg' := mG_34 hg (v := 0)
  have hc' := mC_34 (v := 0) hc
  refine zin0 rfl rfl rfl (b77_0 (c_isMine hg' (mPos_34 hm) (fun p hx hr hw => ?_) (fun hn => ?_)))
  · subst hx
    have hp := sR_ok hg.1 hr
    have hp1 := hp.1
    refine And.intro (fun z => absurd z (by decide)) (fun _ => c_canX hg' hp (zbo_ne (fun z => ?_) (fun z => ?_)))
    · obtain ⟨m, rfl, hm1, hcan⟩ := sCanX_t z
      have qq := h1 p m ⟨rfl, rfl, hm1, hr, hw, hcan⟩
      have hb := (gR_box hg.1 hr).1
      have hb1 := sR_lt hg.1 hb
      have ebl : (nI (sBox g p)).toNatClampNeg = sBox g p := nI_clamp (by omega)
      refine b77_24 (c_boxOf hg' hp1 (And.intro (vp_in_nI hb1 (by decide)) ?_))
      have eop : zup I 0 34 0 4 (nI (sBox g p)).toNatClampNeg = zbo (c.2.1 (sBox g p)) := by rw [ebl]; exact hc'.2.1 _ hb1
      show (zup I 0 34 0 4 (nI (sBox g p)).toNatClampNeg = 0 → _) ∧ (¬ zup I 0 34 0 4 (nI (sBox g p)).toNatClampNeg = 0 → _)
      rw [eop]
      have hml := sCan_lt hcan
      refine zbo_eq (fun z2 => b77_51 (b77_53 ?_)) (fun z2 => c_at hg' hp1 hml ?_)
      · rw [if_neg (by rw [z2]; exact Bool.false_ne_true)] at qq
        exact qq
      · have hls := sLeast_lt (b := sBox g p) hg.1 (sLed_lt hg.1 hml (sTurnOf_lt g p))
        have hmm := sMM_pos hg.1
        have hat : sAtB g p m < 177147 := by unfold sAtB; omega
        refine And.intro (vp_in_nI hat (by decide)) (b77_53 ?_)
        rw [if_pos z2] at qq
        have e : zup I 0 34 0 5 (nI (sAtB g p m)).toNatClampNeg = nI (c.1 (sAtB g p m)) := by rw [nI_clamp (by omega)]; exact hc'.1 _ hat
        rw [← e] at qq
        exact qq
    · refine b77_22 (h0 fun p' m' hp' ⟨a1, a2, a3, _, _, a6⟩ => ?_)
      have e := nI_inj (by omega) hp' a1
      subst e
      rw [sCanX_f z a2 a3] at a6
      cases a6
  · exact And.intro (fun _ => b77_22 (h0 fun p' m' hp' ⟨a1, _, _, a4, a5, _⟩ => hn p' a1 hp' a4 a5)) (fun z => absurd rfl z)
theorem c_isOpen {x y : Int32} (hg : mG g I) (hm : mPos g I) (hc : mC c I) (h1 : ∀ p m, xMine g x y p m → c.2.1 (sBox g p) = true → post (some (.int 1)) I L (zR1 q)) (h0 : (∀ p m, p < 2 ^ 31 → xMine g x y p m → c.2.1 (sBox g p) = false) → post (some (.int 0)) I L (zR1 q)) : zC G (n + 5) 79 [.ref 0, .int x, .int y] I L (zR1 q) post := by
  have zero : (∀ p m, p < 2 ^ 31 → xMine g x y p m → c.2.1 (sBox g p) = false) → zQ G 79 (n + 4) post 34 [some (.ref 0), some (.int x), some (.int y)] [] I L (zR1 q) := fun k => b79_34 (b79_35 (And.intro rfl (h0 k)))
  refine zin0 rfl rfl rfl (b79_0 (c_isMine hg hm (fun p hx hr hw => ?_) (fun hn => ?_)))
  · subst hx
    have hp := sR_ok hg.1 hr
    have hp1 := hp.1
    refine And.intro (fun z => absurd z (by decide)) (fun _ => c_canX hg hp (zbo_eq (fun z => ?_) (fun z => ?_)))
    · refine zero fun p' m' hp' ⟨a1, a2, a3, _, _, a6⟩ => ?_
      have e := nI_inj (by omega) hp' a1
      subst e
      rw [sCanX_f z a2 a3] at a6
      cases a6
    · obtain ⟨m, rfl, hm1, hcan⟩ := sCanX_t z
      have hb := (gR_box hg.1 hr).1
      have hb1 := sR_lt hg.1 hb
      have ebl : (nI (sBox g p)).toNatClampNeg = sBox g p := nI_clamp (by omega)
      refine c_boxOf hg hp1 (And.intro (vp_in_nI hb1 (by decide)) ?_)
      have eop : I 4 (nI (sBox g p)).toNatClampNeg = zbo (c.2.1 (sBox g p)) := by rw [ebl]; exact hc.2.1 _ hb1
      show (I 4 (nI (sBox g p)).toNatClampNeg = 0 → _) ∧ (¬ I 4 (nI (sBox g p)).toNatClampNeg = 0 → _)
      rw [eop]
      refine zbo_eq (fun z2 => zero fun p' m' hp' hx' => ?_) (fun z2 => b79_35 (And.intro rfl (h1 p m ⟨rfl, rfl, hm1, hr, hw, hcan⟩ z2)))
      have e := nI_inj (by omega) hp' hx'.1
      subst e
      exact z2
  · exact And.intro (fun _ => zero fun p' m' hp' ⟨a1, _, _, a4, a5, _⟩ => absurd a5 (hn p' a1 hp' a4)) (fun z => absurd rfl z)
theorem sAtB_lt {p m : Nat} (hg : gOk g) (hr : sR g p) (hc : sCan g p m = true) : sAtB g p m < 177147 := by
  have hls := sLeast_lt (b := sBox g p) hg (sLed_lt hg (sCan_lt hc) (sTurnOf_lt g p))
  have hmm := sMM_pos hg
  have hb1 := sR_lt hg (gR_box hg hr).1
  unfold sAtB
  omega
theorem c_in199 {k : Nat} {x : Int32} {R : zR} (hx : x = nI k) (hk : k < 2 ^ 31) (h : post (some (.int (zbo (decide (1 ≤ k ∧ k ≤ 99))))) I L R) : zC G (n + 1) 2 [.int x, .int 1, .int 99] I L R post := c_inN (x := k) (lo := 1) (hi := 99) hx rfl rfl hk (by omega) (by omega) h
/-- so many beads, told by an int -/
def xNum (z : Int32) (k : Nat) : Prop := z = nI k ∧ 1 ≤ k ∧ k ≤ 99
theorem c_in199x {z : Int32} {R : zR} (h1 : ∀ k, xNum z k → post (some (.int 1)) I L R) (h0 : (∀ k, ¬ xNum z k) → post (some (.int 0)) I L R) : zC G (n + 1) 2 [.int z, .int 1, .int 99] I L R post := by
  rcases pk_ix z (n := 100) (by omega) with c | c | ⟨k, hk, rfl⟩
  · refine c_in ?_
    rw [decide_eq_false (fun w => Int32.not_lt.mpr (Int32.le_trans (by decide) w.1) c)]
    refine h0 fun k hk => ?_
    rw [hk.1] at c
    exact nI_pos (by have := hk.2; omega) c
  · refine c_in ?_
    rw [decide_eq_false (fun w => by
      have := Int32.le_trans c w.2
      exact absurd this (by decide))]
    refine h0 fun k hk => ?_
    rw [hk.1, nI_leI (by omega) (by have := hk.2; omega)] at c
    have := hk.2
    omega
  · refine c_in199 rfl (by omega) ?_
    by_cases d : 1 ≤ k
    · rw [decide_eq_true (by omega)]
      exact h1 k ⟨rfl, d, by omega⟩
    · rw [decide_eq_false (by omega)]
      refine h0 fun k' hk' => ?_
      have e := nI_inj (by omega) (by have := hk'.2; omega) hk'.1
      have := hk'.2
      omega
theorem c_put {x y z : Int32} (hg : mG g I) (hm : mPos g I) (hin : cIn g c) (hc : mC c I) (hu : I 0 35 = 0) (h1 : ∀ p m k, xMine g x y p m → c.2.1 (sBox g p) = true → xNum z k → k ≤ c.2.2.1 → ∀ I' : zI, mC (cGive c (sAtB g p m) k) I' → zFr tC (zup I 0 34 0) I' → post (some (.int (nI (c.1 (sAtB g p m) + k)))) I' L (zR1 q)) (h0 : (∀ p m k, p < 2 ^ 31 → xMine g x y p m → c.2.1 (sBox g p) = true → xNum z k → c.2.2.1 < k) → post (some (.int (-1))) (zup I 0 34 0) L (zR1 q)) : zC G (n + 6) 80 [.ref 0, .int x, .int y, .int z] I L (zR1 q) post := by
  have hg' := mG_34 hg (v := 0)
  have hc' := mC_34 (v := 0) hc
  have zero : (∀ p m k, p < 2 ^ 31 → xMine g x y p m → c.2.1 (sBox g p) = true → xNum z k → c.2.2.1 < k) → zQ G 80 (n + 5) post 32 [some (.ref 0), some (.int x), some (.int y), some (.int z)] [] (zup I 0 34 0) L (zR1 q) := fun k => b80_32 (h0 k)
  refine zin0 rfl rfl rfl (b80_0 (c_in199x (fun k hk => ?_) (fun hk => ?_)))
  · refine And.intro (fun w => absurd w (by decide)) (fun _ => c_isOpen hg' (mPos_34 hm) hc' (fun p m hx ho => ?_) (fun hn => ?_))
    · refine And.intro (fun w => absurd w (by decide)) (fun _ => ?_)
      have hbd := cAll_bd hin.1 (k := 0) (by omega)
      obtain ⟨rfl, rfl, hm1, hr, hw, hcan⟩ := id hx
      have hp := sR_ok hg.1 hr
      have hp1 := hp.1
      have hml := sCan_lt hcan
      have hat := sAtB_lt hg.1 hr hcan
      refine pk_le k c.2.2.1 (fun z2 => b80_34 (c_at hg' hp1 hml ?_)) (fun z2 => zero fun p' m' k' hp' hx' _ hk' => ?_) hk.1 hc'.2.2.1 (by have := hk.2; omega) (by omega)
      · obtain ⟨rfl, hk1, hk2⟩ := id hk
        have hb1 := cAll_bd hin.1 hat
        refine c_give (w := none) hat (by omega) (by omega) (by omega) hc' hu trivial fun I2 w2 hc2 hw2 hs2 hf2 => And.intro rfl ?_
        refine c_at (mG_tC hg' hf2) hp1 hml ?_
        have qq := h1 p m k hx ho hk z2 I2 hc2 hf2
        have e : I2 5 (nI (sAtB g p m)).toNatClampNeg = nI (c.1 (sAtB g p m) + k) := by
          rw [nI_clamp (by omega), hc2.1 _ hat]
          show nI (fup c.1 (sAtB g p m) (c.1 (sAtB g p m) + min k c.2.2.1) (sAtB g p m)) = _
          rw [fup_s, Nat.min_eq_left z2]
        rw [← e] at qq
        exact And.intro (vp_in_nI hat (by decide)) qq
      · have e := nI_inj (a := k) (b := k') (by have := hk.2; omega) (by have := hk'.2; omega) (hk.1.symm.trans hk'.1)
        omega
    · exact And.intro (fun _ => zero fun p' m' k' hp' hx' ho' _ => absurd (hn p' m' hp' hx') (by rw [ho']; exact fun w => by cases w)) (fun w => absurd rfl w)
  · exact And.intro (fun _ => zero fun p' m' k' _ _ _ hk' => absurd hk' (hk k')) (fun w => absurd rfl w)
/-- beads taken out, back to the bag -/
def cOut (c : sC) (k x : Nat) : sC := cSetBag (cSetBd c k (c.1 k - x)) (c.2.2.1 + x)
theorem c_out {x y z : Int32} (hg : mG g I) (hm : mPos g I) (hin : cIn g c) (hc : mC c I) (h1 : ∀ p m k, xMine g x y p m → c.2.1 (sBox g p) = true → xNum z k → k ≤ c.1 (sAtB g p m) → ∀ I' : zI, mC (cOut c (sAtB g p m) k) I' → zFr tC (zup I 0 34 0) I' → post (some (.int (nI (c.1 (sAtB g p m) - k)))) I' L (zR1 q)) (h0 : (∀ p m k, p < 2 ^ 31 → xMine g x y p m → c.2.1 (sBox g p) = true → xNum z k → c.1 (sAtB g p m) < k) → post (some (.int (-1))) (zup I 0 34 0) L (zR1 q)) : zC G (n + 6) 81 [.ref 0, .int x, .int y, .int z] I L (zR1 q) post := by
  have hg' := mG_34 hg (v := 0)
  have hc' := mC_34 (v := 0) hc
  have zero : (∀ p m k, p < 2 ^ 31 → xMine g x y p m → c.2.1 (sBox g p) = true → xNum z k → c.1 (sAtB g p m) < k) → zQ G 81 (n + 5) post 39 [some (.ref 0), some (.int x), some (.int y), some (.int z)] [] (zup I 0 34 0) L (zR1 q) := fun k => b81_39 (h0 k)
  refine zin0 rfl rfl rfl (b81_0 (c_in199x (fun k hk => ?_) (fun hk => ?_)))
  · refine And.intro (fun w => absurd w (by decide)) (fun _ => c_isOpen hg' (mPos_34 hm) hc' (fun p m hx ho => ?_) (fun hn => ?_))
    · refine And.intro (fun w => absurd w (by decide)) (fun _ => ?_)
      obtain ⟨rfl, rfl, hm1, hr, hw, hcan⟩ := id hx
      have hp := sR_ok hg.1 hr
      have hp1 := hp.1
      have hml := sCan_lt hcan
      have hat := sAtB_lt hg.1 hr hcan
      have hbd := cAll_bd hin.1 hat
      have ecl : (nI (sAtB g p m)).toNatClampNeg = sAtB g p m := nI_clamp (by omega)
      have inb : vp_in (nI (sAtB g p m)) 177147 := vp_in_nI hat (by decide)
      have e5 : zup I 0 34 0 5 (nI (sAtB g p m)).toNatClampNeg = nI (c.1 (sAtB g p m)) := by rw [ecl]; exact hc'.1 _ hat
      refine c_at hg' hp1 hml (And.intro inb ?_)
      refine pk_le k (c.1 (sAtB g p m)) (fun z2 => b81_41 (c_at hg' hp1 hml ?_)) (fun z2 => zero fun p' m' k' hp' hx' _ hk' => ?_) hk.1 e5 (by have := hk.2; omega) (by omega)
      · obtain ⟨rfl, hk1, hk2⟩ := id hk
        refine And.intro ⟨rfl, rfl⟩ (And.intro inb (And.intro inb ?_))
        obtain ⟨I2, hI2⟩ : ∃ I2 : zI, I2 = zup (zup (zup I 0 34 0) 5 (nI (sAtB g p m)).toNatClampNeg (zup I 0 34 0 5 (nI (sAtB g p m)).toNatClampNeg - nI k)) 0 14 (zup (zup I 0 34 0) 5 (nI (sAtB g p m)).toNatClampNeg (zup I 0 34 0 5 (nI (sAtB g p m)).toNatClampNeg - nI k) 0 14 + nI k) := ⟨_, rfl⟩
        have hf2 : zFr tC (zup I 0 34 0) I2 := by rw [hI2]; exact zFr_up (zFr_up (zFr_0 _ _) rfl) rfl
        refine And.intro rfl ?_
        show zC G (n + 5) 28 [.ref 0, .int (nI p), .int (nI m)] (zup (zup (zup I 0 34 0) 5 (nI (sAtB g p m)).toNatClampNeg (zup I 0 34 0 5 (nI (sAtB g p m)).toNatClampNeg - nI k)) 0 14 (zup (zup I 0 34 0) 5 (nI (sAtB g p m)).toNatClampNeg (zup I 0 34 0 5 (nI (sAtB g p m)).toNatClampNeg - nI k) 0 14 + nI k)) L (zR1 q) _
        rw [← hI2]
        have hc2 : mC (cOut c (sAtB g p m) k) I2 := by
          rw [hI2, e5, ecl, pk_sub z2]
          refine ⟨fun j hj => ?_, fun j hj => ?_, ?_, hc.2.2.2.1, hc.2.2.2.2⟩
          · rw [zup_ne (by decide), zup_eq]
            show _ = nI (fup c.1 (sAtB g p m) (c.1 (sAtB g p m) - k) j)
            unfold fup
            by_cases d : j = sAtB g p m
            · rw [if_pos d, if_pos d]
            · rw [if_neg d, if_neg d]
              exact hc'.1 j hj
          · rw [zup_ne (by decide), zup_ne (by decide)]
            exact hc'.2.1 j hj
          · rw [zup_self, zup_ne (by decide), show zup I 0 34 0 0 14 = nI c.2.2.1 from hc'.2.2.1, nI_add]
            rfl
        refine c_at (mG_tC hg' hf2) hp1 hml ?_
        have qq := h1 p m k hx ho hk z2 I2 hc2 hf2
        have e : I2 5 (nI (sAtB g p m)).toNatClampNeg = nI (c.1 (sAtB g p m) - k) := by
          rw [ecl, hc2.1 _ hat]
          show nI (fup c.1 (sAtB g p m) (c.1 (sAtB g p m) - k) (sAtB g p m)) = _
          rw [fup_s]
        rw [← e] at qq
        exact And.intro inb qq
      · have e := nI_inj (a := k) (b := k') (by have := hk.2; omega) (by have := hk'.2; omega) (hk.1.symm.trans hk'.1)
        have e2 := nI_inj (by omega) hp' hx'.1
        have e3 := nI_inj hm1 hx'.2.2.1 hx'.2.1
        subst e e2 e3
        omega
    · exact And.intro (fun _ => zero fun p' m' k' hp' hx' ho' _ => absurd (hn p' m' hp' hx') (by rw [ho']; exact fun w => by cases w)) (fun w => absurd rfl w)
  · exact And.intro (fun _ => zero fun p' m' k' _ _ _ hk' => absurd hk' (hk k')) (fun w => absurd rfl w)
theorem c_openP {x : Int32} {fr : Nat → Nat} (hg : mG g I) (hm : mPos g I) (hfr : mF fr I) (hin : cIn g c) (hc : mC c I) (hu : I 0 35 = 0) (h1 : ∀ p, x = nI p → sR g p → sWork g p = g 8 → c.2.1 (sBox g p) = false → ∀ I' : zI, mC (sOpn g fr c (sBox g p)) I' → zFr tC (zup I 0 34 0) I' → post (some (.int (nI (cFill g (sBox g p) (fr (min 20 (sStn g (sBox g p)))) (cSetOp c (sBox g p) true) (sMM g)).2))) I' L (zR1 q)) (h0 : (∀ p, x = nI p → p < 2 ^ 31 → sR g p → sWork g p = g 8 → c.2.1 (sBox g p) = true) → post (some (.int (-1))) (zup I 0 34 0) L (zR1 q)) : zC G (n + 6) 78 [.ref 0, .int x] I L (zR1 q) post := by
  have hg' := mG_34 hg (v := 0)
  have hc' := mC_34 (v := 0) hc
  refine zin0 rfl rfl rfl (b78_0 (c_isMine hg' (mPos_34 hm) (fun p hx hr hw => ?_) (fun hn => ?_)))
  · subst hx
    have hp := sR_ok hg.1 hr
    have hp1 := hp.1
    have hb := (gR_box hg.1 hr).1
    have hbp := sR_ok hg.1 hb
    have hb1 := hbp.1
    have ebl : (nI (sBox g p)).toNatClampNeg = sBox g p := nI_clamp (by omega)
    refine And.intro (fun z => absurd z (by decide)) (fun _ => c_boxOf hg' hp1 (And.intro (vp_in_nI hb1 (by decide)) ?_))
    have eop : zup I 0 34 0 4 (nI (sBox g p)).toNatClampNeg = zbo (c.2.1 (sBox g p)) := by rw [ebl]; exact hc'.2.1 _ hb1
    show (¬ zup I 0 34 0 4 (nI (sBox g p)).toNatClampNeg = 0 → _) ∧ (zup I 0 34 0 4 (nI (sBox g p)).toNatClampNeg = 0 → _)
    rw [eop]
    refine zbo_ne (fun z2 => b78_38 (b78_39 (h0 fun p' hx' hp' _ _ => ?_))) (fun z2 => c_boxOf hg' hp1 ?_)
    · rw [← nI_inj (by omega) hp' hx']
      exact z2
    · refine c_openBox (w := none) hg' (mF_34 hfr) hbp z2 hin.1 hc' hu trivial fun I2 w2 hc2 _ _ hf2 => b78_39 ?_
      have e : sOpn g fr c (sBox g p) = (cFill g (sBox g p) (fr (min 20 (sStn g (sBox g p)))) (cSetOp c (sBox g p) true) (sMM g)).1 := by unfold sOpn; rw [if_neg (by rw [z2]; exact Bool.false_ne_true)]
      exact h1 p rfl hr hw z2 I2 (by rw [e]; exact hc2) hf2
  · exact And.intro (fun _ => b78_38 (b78_39 (h0 fun p hx hp hr hw => absurd hw (hn p hx hp hr)))) (fun z => absurd rfl z)
end
