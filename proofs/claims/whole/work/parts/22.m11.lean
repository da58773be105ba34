-- ===== the reference: opening a box, filling it =====
def sSum (f : Nat → Nat) : Nat → Nat
  | 0 => 0
  | n + 1 => sSum f n + f n
theorem sSum_out {f : Nat → Nat} {k v : Nat} : ∀ n, n ≤ k → sSum (fup f k v) n = sSum f n
  | 0, _ => rfl
  | n + 1, h => by
    show sSum (fup f k v) n + fup f k v n = sSum f n + f n
    rw [sSum_out n (by omega), fup_n (by omega)]
theorem sSum_fup {f : Nat → Nat} {k v : Nat} : ∀ n, k < n → sSum (fup f k v) n + f k = sSum f n + v
  | 0, h => absurd h (Nat.not_lt_zero _)
  | n + 1, h => by
    show sSum (fup f k v) n + fup f k v n + f k = sSum f n + f n + v
    by_cases c : k = n
    · subst c
      rw [sSum_out _ (Nat.le_refl _), fup_s]
      omega
    · have := sSum_fup (f := f) (v := v) n (show k < n by omega)
      rw [fup_n (by omega)]
      omega
theorem sSum_ge {f : Nat → Nat} {k : Nat} : ∀ n, k < n → f k ≤ sSum f n
  | 0, h => absurd h (Nat.not_lt_zero _)
  | n + 1, h => by
    show f k ≤ sSum f n + f n
    by_cases c : k = n
    · subst c; omega
    · have := sSum_ge (f := f) n (show k < n by omega)
      omega
/-- all beads together -/
def cAll (c : sC) : Prop := sSum c.1 177147 + c.2.2.1 + c.2.2.2.1 = 10000
theorem cAll_bd {c : sC} (h : cAll c) {k : Nat} (hk : k < 177147) : c.1 k ≤ 10000 ∧ c.2.2.1 ≤ 10000 ∧ c.2.2.2.1 ≤ 10000 := by
  have := sSum_ge (f := c.1) 177147 hk
  unfold cAll at h
  omega
theorem cAll_give {c : sC} (h : cAll c) {k x : Nat} (hk : k < 177147) : cAll (cGive c k x) := by
  have q := sSum_fup (f := c.1) (v := c.1 k + min x c.2.2.1) 177147 hk
  have hm : min x c.2.2.1 ≤ c.2.2.1 := Nat.min_le_right _ _
  unfold cAll at h ⊢
  show sSum (fup c.1 k (c.1 k + min x c.2.2.1)) 177147 + (c.2.2.1 - min x c.2.2.1) + c.2.2.2.1 = 10000
  omega
/-- so many beads of each move of the box that has beads, and how many came -/
def cFill (g : zg) (b x : Nat) (c : sC) : Nat → sC × Nat
  | 0 => (c, 0)
  | m + 1 => if sHas g b m = true then (cGive (cFill g b x c m).1 (9 * b + m) x, (cFill g b x c m).2 + min x (cFill g b x c m).1.2.2.1) else cFill g b x c m
theorem cFill_all {g : zg} {b x : Nat} {c : sC} (h : cAll c) (hb : b < 19683) : ∀ m, m ≤ 9 → cAll (cFill g b x c m).1
  | 0, _ => h
  | m + 1, hm => by
    have q := cFill_all (g := g) (x := x) h hb m (by omega)
    rw [cFill]
    split
    · exact cAll_give q (by omega)
    · exact q
theorem tC_g : ∀ k, k < 9 → tC 0 k = false := by decide
section
variable {G : zG} {n : Nat} {I : zI} {L : zL} {q : zq} {post : zPo} {g : zg} {c : sC} {w : uW}
theorem mG_tC {I' : zI} (hg : mG g I) (hf : zFr tC I I') : mG g I' := ⟨hg.1, fun k hk => (hf 0 k (tC_g k hk)).trans (hg.2 k hk)⟩
/-- the fresh beads by stones -/
def mF (f : Nat → Nat) (I : zI) : Prop := ∀ s, s < 21 → I 6 s = nI (f s) ∧ f s ≤ 20
theorem mF_tC {f : Nat → Nat} {I' : zI} (h : mF f I) (hf : zFr tC I I') : mF f I' := fun s hs => ⟨(hf 6 s rfl).trans (h s hs).1, (h s hs).2⟩
theorem c_freshOf {f : Nat → Nat} {b : Nat} (hg : mG g I) (hf : mF f I) (hb : pOk g b) (h : post (some (.int (nI (f (min 20 (sStn g b)))))) I L (zR1 q)) : zC G (n + 3) 36 [.ref 0, .int (nI b)] I L (zR1 q) post := by
  have hb1 := hb.1
  have hs : sStn g b ≤ 20 := by
    have h5 : g 5 ≤ 20 := hg.1.2.2.2.2.2.1.2
    have hpl := sPl_pos hg.1
    have hc := sCnt_le b (sPl g)
    unfold sStn
    split <;> omega
  refine zin0 rfl rfl rfl (b36_0 (c_stones hg (by omega) hb.2 ?_))
  have em : (if nI (sStn g b) < 20 then nI (sStn g b) else 20) = nI (min 20 (sStn g b)) := by
    rw [show (20 : Int32) = nI 20 from rfl]
    by_cases z : sStn g b < 20
    · rw [if_pos ((nI_ltI (b := 20) (by omega) (by omega)).mpr z), Nat.min_eq_right (by omega)]
    · rw [if_neg (fun z2 => z ((nI_ltI (b := 20) (by omega) (by omega)).mp z2)), Nat.min_eq_left (by omega)]
  have hm : min 20 (sStn g b) < 21 := by have := Nat.min_le_left 20 (sStn g b); omega
  show vp_in (if nI (sStn g b) < 20 then nI (sStn g b) else 20) 21 ∧ post (some (.int (I 6 (if nI (sStn g b) < 20 then nI (sStn g b) else 20).toNatClampNeg))) I L (zR1 q)
  rw [em, nI_clamp (by omega), (hf _ hm).1]
  exact And.intro (vp_in_nI hm (by decide)) h
theorem c_openBox {f : Nat → Nat} {b : Nat} (hg : mG g I) (hf : mF f I) (hb : pOk g b) (ho : c.2.1 b = false) (hall : cAll c) (hc : mC c I) (hw : mU w I) (hr : uRoom w 19) (h : ∀ (I' : zI) (w' : uW), mC (cFill g b (f (min 20 (sStn g b))) (cSetOp c b true) (sMM g)).1 I' → mU w' I' → uSt w c 19 w' (cFill g b (f (min 20 (sStn g b))) (cSetOp c b true) (sMM g)).1 → zFr tC I I' → post (some (.int (nI (cFill g b (f (min 20 (sStn g b))) (cSetOp c b true) (sMM g)).2))) I' L (zR1 q)) : zC G (n + 5) 37 [.ref 0, .int (nI b)] I L (zR1 q) post := by
  have hb1 := hb.1
  have hmm := sMM_pos hg.1
  have hfx : f (min 20 (sStn g b)) ≤ 20 := (hf _ (by have := Nat.min_le_left 20 (sStn g b); omega)).2
  have hall2 : cAll (cSetOp c b true) := hall
  have key : ∀ j m : Nat, m + j = sMM g → ∀ (I' : zI) (w' : uW), mC (cFill g b (f (min 20 (sStn g b))) (cSetOp c b true) m).1 I' → mU w' I' → uSt w c (1 + 2 * m) w' (cFill g b (f (min 20 (sStn g b))) (cSetOp c b true) m).1 → zFr tC I I' →
      zQ G 37 (n + 4) post 9 [some (.ref 0), some (.int (nI b)), some (.int (nI (cFill g b (f (min 20 (sStn g b))) (cSetOp c b true) m).2)), some (.int (nI m))] [] I' L (zR1 q) := by
    intro j
    induction j with
    | zero =>
      intro m hm I' w' hc' hw' hs' hf'
      refine b37_9 (c_moveMany (mG_tC hg hf') (pk_le (sMM g) m (fun _ => b37_50 ?_) (fun z => absurd z (by omega)) rfl rfl (by omega) (by omega)))
      have e : m = sMM g := by omega
      subst e
      exact h I' w' hc' hw' (uSt_le hs' (by omega)) hf'
    | succ j ih =>
      intro m hm I' w' hc' hw' hs' hf'
      have hg' := mG_tC hg hf'
      refine b37_9 (c_moveMany hg' (pk_le (sMM g) m (fun z => absurd z (by omega)) (fun _ => c_hasBeads hg' hb (by omega) (zbo_eq (fun z => ?_) (fun z => ?_))) rfl rfl (by omega) (by omega)))
      · have e : cFill g b (f (min 20 (sStn g b))) (cSetOp c b true) (m + 1) = cFill g b (f (min 20 (sStn g b))) (cSetOp c b true) m := by
          rw [cFill, if_neg (by rw [z]; exact Bool.false_ne_true)]
        have qq := ih (m + 1) (by omega) I' w' (by rw [e]; exact hc') hw' (by rw [e]; exact uSt_le hs' (by omega)) hf'
        rw [e, ← nI_1] at qq
        exact b37_44 qq
      · have hx := cFill_all (g := g) (x := f (min 20 (sStn g b))) hall2 hb1 m (by omega)
        have hbd := cAll_bd hx (k := 9 * b + m) (by omega)
        refine c_freshOf hg' (mF_tC hf hf') hb ?_
        show zC G (n + 4) 35 [.ref 0, .int (9 * nI b + nI m), .int (nI (f (min 20 (sStn g b))))] I' L (zR1 q) _
        rw [show (9 : Int32) * nI b + nI m = nI (9 * b + m) by rw [show (9 : Int32) = nI 9 from rfl, pk_mul, nI_add]]
        refine c_give (by omega) (by omega) (by omega) (by omega) hc' hw' (uRoom_st (k := 1 + 2 * m) hs' (uRoom_le hr (by omega))) fun I2 w2 hc2 hw2 hs2 hf2 => b37_44 ?_
        have e : cFill g b (f (min 20 (sStn g b))) (cSetOp c b true) (m + 1) = (cGive (cFill g b (f (min 20 (sStn g b))) (cSetOp c b true) m).1 (9 * b + m) (f (min 20 (sStn g b))), (cFill g b (f (min 20 (sStn g b))) (cSetOp c b true) m).2 + min (f (min 20 (sStn g b))) (cFill g b (f (min 20 (sStn g b))) (cSetOp c b true) m).1.2.2.1) := by
          rw [cFill, if_pos z]
        have qq := ih (m + 1) (by omega) I2 w2 (by rw [e]; exact hc2) hw2 (by rw [e]; exact uSt_le (uSt_tr hs' hs2) (by omega)) (zFr_tr hf' hf2)
        rw [e, ← nI_1, ← nI_add] at qq
        exact qq
  refine zin0 rfl rfl rfl (b37_0 (c_setOpened hb1 ho hc hw (uRoom_le hr (by omega)) fun I1 w1 hc1 hw1 hs1 hf1 => ?_))
  exact key (sMM g) 0 (by omega) I1 w1 hc1 hw1 hs1 hf1
end
