-- ===== the reference: what is in a box, refilling it =====
def sInB (c : sC) (b : Nat) : Nat := sSum (fun k => c.1 (9 * b + k)) 9
theorem sSum_le {f : Nat → Nat} {v : Nat} (h : ∀ k, f k ≤ v) : ∀ n, sSum f n ≤ v * n
  | 0 => Nat.zero_le _
  | n + 1 => by
    have q := sSum_le h n
    have := h n
    show sSum f n + f n ≤ v * (n + 1)
    rw [Nat.mul_succ]
    omega
section
variable {G : zG} {n : Nat} {I : zI} {L : zL} {q : zq} {post : zPo} {g : zg} {c : sC} {w : uW}
theorem c_inBox {b : Nat} (hb : b < 19683) (hc : mC c I) (h : post (some (.int (nI (sInB c b)))) I L (zR1 q)) : zC G (n + 1) 38 [.ref 0, .int (nI b)] I L (zR1 q) post := by
  have key : ∀ j i : Nat, i + j = 9 → zQ G 38 n post 4 [some (.ref 0), some (.int (nI b)), some (.int (nI (sSum (fun k => c.1 (9 * b + k)) i))), some (.int (nI i))] [] I L (zR1 q) := by
    intro j
    induction j with
    | zero =>
      intro i hi
      refine b38_4 (pk_le 9 i (fun _ => b38_30 ?_) (fun z => absurd z (by omega)) rfl rfl (by omega) (by omega))
      have e : i = 9 := by omega
      subst e
      exact h
    | succ j ih =>
      intro i hi
      refine b38_4 (pk_le 9 i (fun z => absurd z (by omega)) (fun _ => ?_) rfl rfl (by omega) (by omega))
      have e9 : (9 : Int32) * nI b + nI i = nI (9 * b + i) := by rw [show (9 : Int32) = nI 9 from rfl, pk_mul, nI_add]
      have qq := ih (i + 1) (by omega)
      have e : nI (sSum (fun k => c.1 (9 * b + k)) i) + I 5 (9 * nI b + nI i).toNatClampNeg = nI (sSum (fun k => c.1 (9 * b + k)) (i + 1)) := by
        rw [e9, nI_clamp (by omega), hc.1 _ (by omega), nI_add]
        rfl
      rw [← nI_1, ← e] at qq
      exact And.intro (by rw [e9]; exact vp_in_nI (by omega) (by decide)) qq
  exact zin0 rfl rfl rfl (b38_0 (key 9 0 (by omega)))
theorem sInB_le {b : Nat} (h : cAll c) (hb : b < 19683) : sInB c b ≤ 90000 := by
  have key : ∀ n, n ≤ 9 → sSum (fun k => c.1 (9 * b + k)) n ≤ 10000 * n := by
    intro n
    induction n with
    | zero => exact fun _ => Nat.zero_le _
    | succ n ih =>
      intro hn
      have q := ih (by omega)
      have := (cAll_bd h (k := 9 * b + n) (by omega)).1
      show sSum _ n + c.1 (9 * b + n) ≤ _
      omega
  exact key 9 (Nat.le_refl _)
def cRefill (g : zg) (b x : Nat) (c : sC) : sC := if sInB c b = 0 then (cFill g b x c (sMM g)).1 else c
theorem c_refill {b r x : Nat} (hg : mG g I) (hb : pOk g b) (h22 : I 0 22 = nI r) (hrl : r < 8) (h9 : I 9 r = nI x) (hx : x ≤ 99) (hall : cAll c) (hc : mC c I) (hw : mU w I) (hr : uRoom w 18) (h : ∀ (I' : zI) (w' : uW), mC (cRefill g b x c) I' → mU w' I' → uSt w c 18 w' (cRefill g b x c) → zFr tC I I' → post none I' L (zR1 q)) : zC G (n + 5) 89 [.ref 0, .int (nI b)] I L (zR1 q) post := by
  have hb1 := hb.1
  have hmm := sMM_pos hg.1
  have hib := sInB_le hall hb1
  have key : sInB c b = 0 → ∀ j m : Nat, m + j = sMM g → ∀ (I' : zI) (w' : uW), mC (cFill g b x c m).1 I' → mU w' I' → uSt w c (2 * m) w' (cFill g b x c m).1 → zFr tC I I' →
      zQ G 89 (n + 4) post 11 [some (.ref 0), some (.int (nI b)), some (.int (nI m))] [] I' L (zR1 q) := by
    intro h0 j
    induction j with
    | zero =>
      intro m hm I' w' hc' hw' hs' hf'
      refine b89_11 (c_moveMany (mG_tC hg hf') (pk_le (sMM g) m (fun _ => b89_54 ?_) (fun z => absurd z (by omega)) rfl rfl (by omega) (by omega)))
      have e : m = sMM g := by omega
      subst e
      have er : cRefill g b x c = (cFill g b x c (sMM g)).1 := by unfold cRefill; rw [if_pos h0]
      rw [er] at h
      exact h I' w' hc' hw' (uSt_le hs' (by omega)) hf'
    | succ j ih =>
      intro m hm I' w' hc' hw' hs' hf'
      have hg' := mG_tC hg hf'
      refine b89_11 (c_moveMany hg' (pk_le (sMM g) m (fun z => absurd z (by omega)) (fun _ => c_hasBeads hg' hb (by omega) (zbo_eq (fun z => ?_) (fun z => ?_))) rfl rfl (by omega) (by omega)))
      · have e : cFill g b x c (m + 1) = cFill g b x c m := by
          rw [cFill, if_neg (by rw [z]; exact Bool.false_ne_true)]
        have qq := ih (m + 1) (by omega) I' w' (by rw [e]; exact hc') hw' (by rw [e]; exact uSt_le hs' (by omega)) hf'
        rw [← nI_1] at qq
        exact b89_48 qq
      · have hx2 := cFill_all (g := g) (x := x) hall hb1 m (by omega)
        have hbd := cAll_bd hx2 (k := 9 * b + m) (by omega)
        have e22 : I' 0 22 = nI r := (hf' 0 22 rfl).trans h22
        have e9 : I' 9 r = nI x := (hf' 9 r rfl).trans h9
        refine And.intro ?_ ?_
        · show vp_in (I' 0 22) 8
          rw [e22]
          exact vp_in_nI hrl (by decide)
        · show zC G (n + 4) 35 [.ref 0, .int (9 * nI b + nI m), .int (I' 9 (I' 0 22).toNatClampNeg)] I' L (zR1 q) _
          rw [e22, nI_clamp (show r < 2 ^ 31 by omega), e9, show (9 : Int32) * nI b + nI m = nI (9 * b + m) by rw [show (9 : Int32) = nI 9 from rfl, pk_mul, nI_add]]
          refine c_give (by omega) (by omega) (by omega) (by omega) hc' hw' (uRoom_st (k := 2 * m) hs' (uRoom_le hr (by omega))) fun I2 w2 hc2 hw2 hs2 hf2 => And.intro rfl (b89_48 ?_)
          have e : (cFill g b x c (m + 1)).1 = cGive (cFill g b x c m).1 (9 * b + m) x := by
            rw [cFill, if_pos z]
          have qq := ih (m + 1) (by omega) I2 w2 (by rw [e]; exact hc2) hw2 (by rw [e]; exact uSt_le (uSt_tr hs' hs2) (by omega)) (zFr_tr hf' hf2)
          rw [← nI_1] at qq
          exact qq
  refine zin0 rfl rfl rfl (b89_0 (c_inBox hb1 hc ?_))
  refine pk_le (sInB c b) 0 (fun z => b89_9 (key (by omega) (sMM g) 0 (by omega) I w hc hw (uSt_0 _ _) (zFr_0 _ _))) (fun z => ?_) rfl rfl (by omega) (by omega)
  have er : cRefill g b x c = c := by unfold cRefill; rw [if_neg (by omega)]
  rw [er] at h
  exact h I w hc hw (uSt_le (uSt_0 _ _) (by omega)) (zFr_0 _ _)
theorem cRefill_all {b x : Nat} (h : cAll c) (hb : b < 19683) (hg : gOk g) : cAll (cRefill g b x c) := by
  have hmm := sMM_pos hg
  unfold cRefill
  split
  · exact cFill_all h hb _ hmm.2
  · exact h
end
