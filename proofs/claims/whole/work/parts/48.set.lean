-- ===== the reference: setting up, signs, counting =====
def sBy (v : Int32) (k : Nat) : Nat := v.toBitVec.toNat / 2 ^ (8 * k) % 256
def zby8 (a : Nat) : Int32 := (nI a).toInt8.toInt32
theorem zti (x : Int32) : x.toInt = if 2 * x.toBitVec.toNat < 2 ^ 32 then (x.toBitVec.toNat : Int) else (x.toBitVec.toNat : Int) - ((2 ^ 32 : Nat) : Int) := BitVec.toInt_eq_toNat_cond x.toBitVec
theorem zby_m (x : Int32) : (x.toInt8.toInt32).toBitVec.toNat % 256 = x.toBitVec.toNat % 256 := by
  have h1 : (x.toInt8.toInt32).toInt = x.toInt.bmod (2 ^ 8) := by rw [Int8.toInt_toInt32, Int32.toInt_toInt8]
  have h2 := zti (x.toInt8.toInt32)
  have h3 := zti x
  have h4 : x.toInt.bmod (2 ^ 8) = if x.toInt % ((2 ^ 8 : Nat) : Int) < (((2 ^ 8 : Nat) : Int) + 1) / 2 then x.toInt % ((2 ^ 8 : Nat) : Int) else x.toInt % ((2 ^ 8 : Nat) : Int) - ((2 ^ 8 : Nat) : Int) := rfl
  rw [h1, h4] at h2
  generalize x.toInt = a at *
  generalize x.toBitVec.toNat = b at *
  generalize (x.toInt8.toInt32).toBitVec.toNat = d at *
  split at h2 <;> split at h2 <;> split at h3 <;> omega
theorem zby_s : ∀ k, k < 4 → ((nI (8 * k) &&& 31).toBitVec.smod 32).toNat = 8 * k := by decide +kernel
theorem zby_sh (v : Int32) {k : Nat} (hk : k < 4) : (v >>> (nI (8 * k) &&& 31)).toInt8.toInt32 = zby8 (sBy v k) := by
  have hb : ((v >>> (nI (8 * k) &&& 31)).toInt8.toInt32).toInt8.toInt32 = (v >>> (nI (8 * k) &&& 31)).toInt8.toInt32 := by rw [Int8.toInt8_toInt32]
  refine (sc_eq hb (n := sBy v k) (Nat.mod_lt _ (by decide))).mpr ?_
  rw [pk_and _ (m := 255) 8 rfl]
  congr 1
  show _ % 256 = _
  rw [zby_m]
  have h1 := pk_shr v (nI (8 * k) &&& 31) (8 * k) (zby_s k hk)
  have h2 := zti (v >>> (nI (8 * k) &&& 31))
  have h3 := zti v
  rw [h1] at h2
  unfold sBy
  generalize (v >>> (nI (8 * k) &&& 31)).toBitVec.toNat = d at *
  have hv := zbv_lt v
  generalize v.toBitVec.toNat = b at *
  generalize v.toInt = a at *
  rw [Int.shiftRight_eq_div_pow] at h2
  match k, hk with
  | 0, _ =>
    rw [show ((2 ^ (8 * 0) : Nat) : Int) = 1 from rfl] at h2
    rw [show 2 ^ (8 * 0) = 1 from rfl]
    split at h2 <;> split at h3 <;> omega
  | 1, _ =>
    rw [show ((2 ^ (8 * 1) : Nat) : Int) = 256 from rfl] at h2
    rw [show 2 ^ (8 * 1) = 256 from rfl]
    split at h2 <;> split at h3 <;> omega
  | 2, _ =>
    rw [show ((2 ^ (8 * 2) : Nat) : Int) = 65536 from rfl] at h2
    rw [show 2 ^ (8 * 2) = 65536 from rfl]
    split at h2 <;> split at h3 <;> omega
  | 3, _ =>
    rw [show ((2 ^ (8 * 3) : Nat) : Int) = 16777216 from rfl] at h2
    rw [show 2 ^ (8 * 3) = 16777216 from rfl]
    split at h2 <;> split at h3 <;> omega
/-- the text: its signs, how many -/
def mTx (tx : Nat → Nat) (n : Nat) (I : zI) : Prop := I 0 31 = nI n ∧ n ≤ 60 ∧ ∀ j, j < n → I 16 j = zby8 (tx j) ∧ tx j < 256
def sTxA (tx : Nat → Nat) (n : Nat) (v : Int32) : Nat → Nat := fun j => if n ≤ j ∧ j < n + 4 then sBy v (3 - (j - n)) else tx j
def sClp (x : Int32) : Nat := if x < 0 then 0 else if 20 < x then 20 else x.toNatClampNeg
def sEnt (k v : Int32) : Nat := sClp (if k = 0 then v.toInt8.toInt32 else if k = 1 then v.toInt16.toInt32 else v)
def sShF (k m f st : Int32) (s : Nat) : Nat := if k = 3 ∨ m ≤ nI s then 0 else sEnt k (f + nI s * st)
theorem sClp_le (x : Int32) : sClp x ≤ 20 := by
  unfold sClp
  split
  · omega
  · next h =>
    split
    · exact Nat.le_refl _
    · next h2 =>
      obtain ⟨j, hj, rfl⟩ := nI_of h
      rw [nI_clamp hj]
      have := Int32.not_lt.mp h2
      rw [show (20 : Int32) = nI 20 from rfl, nI_leI hj (by decide)] at this
      exact this
theorem sShF_le (k m f st : Int32) (s : Nat) : sShF k m f st s ≤ 20 := by
  unfold sShF
  split
  · omega
  · exact sClp_le _
theorem zClp (x : Int32) : (if 0 < (if x < 20 then x else 20) then (if x < 20 then x else 20) else 0) = nI (sClp x) := by
  unfold sClp
  by_cases y1 : x < 0
  · have y2 : x < 20 := Int32.lt_of_lt_of_le y1 (by decide)
    have y3 : ¬ (0 : Int32) < x := fun w => by
      have a := Int32.lt_iff_toInt_lt.mp y1
      have b := Int32.lt_iff_toInt_lt.mp w
      omega
    rw [if_pos y2, if_neg y3, if_pos y1]
    rfl
  · rw [if_neg y1]
    obtain ⟨j, hj, rfl⟩ := nI_of y1
    by_cases y2 : (20 : Int32) < nI j
    · have y3 : ¬ nI j < 20 := fun w => by
        have a := Int32.lt_iff_toInt_lt.mp y2
        have b := Int32.lt_iff_toInt_lt.mp w
        omega
      rw [if_pos y2, if_neg y3]
      rfl
    · rw [if_neg y2, nI_clamp hj]
      have y3 := Int32.not_lt.mp y2
      rw [show (20 : Int32) = nI 20 from rfl, nI_leI hj (by decide)] at y3
      by_cases y4 : j < 20
      · have y5 : nI j < 20 := (nI_ltI (b := 20) hj (by decide)).mpr y4
        rw [if_pos y5]
        by_cases y6 : 0 < j
        · have y7 : (0 : Int32) < nI j := (nI_ltI (a := 0) (by decide) hj).mpr y6
          rw [if_pos y7]
        · rw [show j = 0 by omega]
          rfl
      · rw [show j = 20 by omega]
        rfl
theorem sShF_0 {k m f st : Int32} {s : Nat} (h : k = 3 ∨ m ≤ nI s) : sShF k m f st s = 0 := if_pos h
theorem sShF_1 {k m f st : Int32} {s : Nat} (h : ¬ (k = 3 ∨ m ≤ nI s)) : sShF k m f st s = sEnt k (f + nI s * st) := if_neg h
section
variable {G : zG} {n : Nat} {I : zI} {L : zL} {q : zq} {post : zPo} {g : zg} {c : sC} {w : uW} {fr : Nat → Nat} {f nr nf : Nat} {F : zfo} {rl : zrl} {ru : Option Nat} {tx : Nat → Nat} {tn : Nat} {en : Nat → Int32}
theorem c_seed {v : Int32} (hc : mC c I) (h : ∀ I' : zI, mC (cSetR c v) I' → I' 0 34 = 0 → zFr tC (zup I 0 34 0) I' → post (some (.int c.2.2.2.2)) I' L (zR1 q)) : zC G (n + 1) 64 [.ref 0, .int v] I L (zR1 q) post := by
  refine zin0 rfl rfl rfl (b64_0 ?_)
  have qq := h (zup (zup I 0 34 0) 0 16 v) (mC_R (mC_34 hc)) rfl (zFr_R _ _)
  rw [← show zup I 0 34 0 0 16 = c.2.2.2.2 from hc.2.2.2.2] at qq
  exact qq
theorem c_pay {x : Int32} (hrl : mRl nr rl ru I) (h1 : ∀ ru', x = zon ru' → (∀ r, ru' = some r → r < nr) → ∀ I' : zI, mRl nr rl ru' I' → I' 0 34 = 0 → (∀ o k, ¬ (o = 0 ∧ (k = 22 ∨ k = 34)) → I' o k = I o k) → post (some (.int (zon ru))) I' L (zR1 q)) (h0 : (∀ ru', x = zon ru' → (∀ r, ru' = some r → r < 2 ^ 31) → ∃ r, ru' = some r ∧ nr ≤ r) → post (some (.int (-2))) (zup I 0 34 0) L (zR1 q)) : zC G (n + 2) 63 [.ref 0, .int x] I L (zR1 q) post := by
  have h8 := hrl.1
  have h18 : zup I 0 34 0 0 18 = nI nr := hrl.2.1
  have h22 : zup I 0 34 0 0 22 = zon ru := hrl.2.2.1
  have yes : ∀ ru', x = zon ru' → (∀ r, ru' = some r → r < nr) → zQ G 63 (n + 1) post 22 [some (.ref 0), some (.int x), none] [] (zup I 0 34 0) L (zR1 q) := by
    intro ru' hx hr
    refine b63_22 ?_
    have qq := h1 ru' hx hr (zup (zup I 0 34 0) 0 22 x) ?_ rfl (fun o k hh => by
      unfold zup
      by_cases d : o = 0
      · rw [if_pos d, if_neg (fun a => hh ⟨d, Or.inl a⟩), if_pos d, if_neg (fun a => hh ⟨d, Or.inr a⟩)]
      · rw [if_neg d, if_neg d])
    · rw [← h22] at qq
      exact qq
    · refine ⟨hrl.1, hrl.2.1, by rw [zup_self]; exact hx, hr, fun r hr2 => ?_⟩
      rw [zup_ne (by decide), zup_ne (by decide), zup_ne (by decide), zup_ne (by decide), zup_ne (by decide), zup_ne (by decide)]
      exact hrl.2.2.2.2 r hr2
  have e1 : (-1 : Int32).toInt = -1 := by decide
  refine zin0 rfl rfl rfl (b63_0 ?_)
  show zC G (n + 1) 2 [.int x, .int (-1), .int (zup I 0 34 0 0 18 - 1)] (zup I 0 34 0) L (zR1 q) _
  rw [h18]
  refine c_in ?_
  by_cases z : -1 ≤ x ∧ x ≤ nI nr - 1
  · rw [decide_eq_true z]
    refine And.intro (fun _ => ?_) (fun w => absurd w (by decide))
    by_cases z2 : x = -1
    · exact yes none z2 (fun r hr => by cases hr)
    · have a1 := Int32.le_iff_toInt_le.mp z.1
      have a2 := Int32.le_iff_toInt_le.mp z.2
      have a3 : x.toInt ≠ -1 := fun w => z2 (Int32.toInt_inj.mp (by rw [w, e1]))
      rw [e1] at a1
      rw [show nI nr - 1 = nI nr - nI 1 from rfl, pk_sub_toInt (by omega) (by decide)] at a2
      have hx0 : ¬ x < 0 := fun w => by
        have := Int32.lt_iff_toInt_lt.mp w
        rw [show (0 : Int32).toInt = 0 from by decide] at this
        omega
      obtain ⟨j, hj, rfl⟩ := nI_of hx0
      rw [nI_toInt hj] at a2
      exact yes (some j) rfl (fun r hr => by injection hr with hr; omega)
  · rw [decide_eq_false z]
    refine And.intro (fun w => absurd rfl w) (fun _ => h0 fun ru' hx hr => ?_)
    cases ru' with
    | none =>
      refine absurd ⟨by rw [hx]; exact Int32.le_refl _, ?_⟩ z
      rw [hx]
      refine Int32.le_iff_toInt_le.mpr ?_
      rw [show nI nr - 1 = nI nr - nI 1 from rfl, pk_sub_toInt (by omega) (by decide)]
      show (-1 : Int32).toInt ≤ _
      rw [e1]
      omega
    | some r =>
      refine ⟨r, rfl, ?_⟩
      by_cases z2 : nr ≤ r
      · exact z2
      · exfalso
        have hx : x = nI r := hx
        refine z ⟨?_, ?_⟩
        · rw [hx]
          exact Int32.le_trans (by decide) (nI_pos' (by omega))
        · rw [hx]
          refine Int32.le_iff_toInt_le.mpr ?_
          rw [show nI nr - 1 = nI nr - nI 1 from rfl, pk_sub_toInt (by omega) (by decide), nI_toInt (by omega)]
          omega
theorem c_fresh {x y : Int32} (hfr : mF fr I) (h1 : ∀ s v, x = nI s → y = nI v → s < 21 → v ≤ 20 → ∀ I' : zI, mF (fup fr s v) I' → I' 0 34 = 0 → (∀ o k, o ≠ 6 → ¬ (o = 0 ∧ k = 34) → I' o k = I o k) → post (some (.int (nI (fr s)))) I' L (zR1 q)) (h0 : (xOut x 21 ∨ xOut y 21) → post (some (.int (-1))) (zup I 0 34 0) L (zR1 q)) : zC G (n + 2) 61 [.ref 0, .int x, .int y] I L (zR1 q) post := by
  refine zin0 rfl rfl rfl (b61_0 (c_in0N (m := 20) rfl (by omega) (fun s hs hs2 => And.intro (fun w => absurd w (by decide)) (fun _ => ?_)) (fun ho => And.intro (fun _ => b61_25 (h0 (Or.inl ho))) (fun w => absurd rfl w))))
  refine c_in0N (m := 20) rfl (by omega) (fun v hv hv2 => And.intro (fun _ => b61_27 ?_) (fun w => absurd w (by decide))) (fun ho => And.intro (fun w => absurd rfl w) (fun _ => b61_25 (h0 (Or.inr ho))))
  subst hs hv
  have ec : (nI s).toNatClampNeg = s := nI_clamp (by omega)
  have vin : vp_in (nI s) 21 := vp_in_nI (by omega) (by decide)
  refine And.intro vin (And.intro vin ?_)
  have e6 : zup I 0 34 0 6 (nI s).toNatClampNeg = nI (fr s) := by rw [ec, zup_ne (by decide)]; exact (hfr s (by omega)).1
  have qq := h1 s v rfl rfl (by omega) hv2 (zup (zup I 0 34 0) 6 (nI s).toNatClampNeg (nI v)) (fun j hj => ?_) (by rw [zup_ne (by decide)]; rfl) (fun o k ho hk => ?_)
  · rw [← e6] at qq
    exact qq
  · rw [ec, zup_eq, zup_ne (by decide)]
    unfold fup
    by_cases d : j = s
    · rw [if_pos d, if_pos d]
      exact ⟨rfl, hv2⟩
    · rw [if_neg d, if_neg d]
      exact hfr j hj
  · rw [zup_ne ho]
    unfold zup
    by_cases d : o = 0
    · rw [if_pos d, if_neg (fun a => hk ⟨d, a⟩)]
    · rw [if_neg d]
theorem c_end {x : Int32} (ht : mTx tx tn I) (h1 : ∀ k, x = nI k → k ≤ tn → ∀ I' : zI, mTx tx k I' → I' 0 34 = 0 → (∀ o j, ¬ (o = 0 ∧ (j = 31 ∨ j = 34)) → I' o j = I o j) → post (some (.int 1)) I' L (zR1 q)) (h0 : xOut x (tn + 1) → post (some (.int 0)) (zup I 0 34 0) L (zR1 q)) : zC G (n + 2) 43 [.ref 0, .int x] I L (zR1 q) post := by
  obtain ⟨h31, hn, hb⟩ := ht
  have h31' : zup I 0 34 0 0 31 = nI tn := h31
  refine zin0 rfl rfl rfl (b43_0 ?_)
  show zC G (n + 1) 2 [.int x, .int 0, .int (zup I 0 34 0 0 31)] (zup I 0 34 0) L (zR1 q) _
  refine c_in0N (m := tn) h31' (by omega) (fun k hk hk2 => And.intro (fun _ => b43_19 (And.intro rfl ?_)) (fun w => absurd w (by decide))) (fun ho => And.intro (fun w => absurd rfl w) (fun _ => And.intro rfl (h0 ho)))
  subst hk
  refine h1 k rfl hk2 (zup (zup I 0 34 0) 0 31 (nI k)) ⟨zup_self, by omega, fun j hj => by rw [zup_ne (by decide), zup_ne (by decide)]; exact hb j (by omega)⟩ rfl (fun o j hh => ?_)
  unfold zup
  by_cases d : o = 0
  · rw [if_pos d, if_neg (fun a => hh ⟨d, Or.inl a⟩), if_pos d, if_neg (fun a => hh ⟨d, Or.inr a⟩)]
  · rw [if_neg d, if_neg d]
theorem c_sign {v : Int32} (ht : mTx tx tn I) (h1 : tn + 4 ≤ 60 → ∀ I' : zI, mTx (sTxA tx tn v) (tn + 4) I' → I' 0 34 = 0 → (∀ o j, o ≠ 16 → ¬ (o = 0 ∧ (j = 31 ∨ j = 34)) → I' o j = I o j) → post (some (.int (nI (tn + 4)))) I' L (zR1 q)) (h0 : 60 < tn + 4 → post (some (.int (-1))) (zup I 0 34 0) L (zR1 q)) : zC G (n + 1) 42 [.ref 0, .int v] I L (zR1 q) post := by
  obtain ⟨h31, hn, hb⟩ := ht
  have h31' : zup I 0 34 0 0 31 + 4 = nI (tn + 4) := by
    rw [show zup I 0 34 0 0 31 = I 0 31 from rfl, h31, show (4 : Int32) = nI 4 from rfl, nI_add]
  refine zin0 rfl rfl rfl (b42_0 (pk_le (tn + 4) 60 (fun z => b42_18 ?_) (fun z => h0 z) h31' rfl (by omega) (by omega)))
  have key : ∀ k, k ≤ 4 → ∀ J : zI, J 0 31 = nI (tn + (4 - k)) → (∀ j, j < tn + (4 - k) → J 16 j = zby8 (sTxA tx tn v j) ∧ sTxA tx tn v j < 256) → J 0 34 = 0 → (∀ o j, o ≠ 16 → ¬ (o = 0 ∧ (j = 31 ∨ j = 34)) → J o j = I o j) → ∀ kx : Int32, kx + 1 = nI k → zQ G 42 n post 20 [some (.ref 0), some (.int v), some (.int kx)] [] J L (zR1 q) := by
    intro k
    induction k with
    | zero =>
      intro _ J j31 j16 j34 jo kx hkx
      have ek : kx = -1 := by
        have : kx = nI 0 - 1 := by rw [← hkx, Int32.add_sub_cancel]
        rw [this]
        rfl
      subst ek
      refine b42_20 (And.intro (fun _ => b42_53 ?_) (fun w => absurd (by decide) w))
      have qq := h1 z J ⟨j31, z, j16⟩ j34 jo
      rw [← show J 0 31 = nI (tn + 4) from j31] at qq
      exact qq
    | succ k ih =>
      intro hk J j31 j16 j34 jo kx hkx
      have ek : kx = nI k := by
        have : kx = nI (k + 1) - 1 := by rw [← hkx, Int32.add_sub_cancel]
        rw [this, nI_pred]
      subst ek
      have c31 : (J 0 31).toNatClampNeg = tn + (4 - (k + 1)) := by rw [j31, nI_clamp (by omega)]
      have v31 : vp_in (J 0 31) 60 := by rw [j31]; exact vp_in_nI (by omega) (by decide)
      have e8 : (8 : Int32) * nI k = nI (8 * k) := pk_mul 8 k
      refine b42_20 (And.intro (fun w => absurd w (nI_pos (by omega))) (fun _ => And.intro rfl (And.intro ⟨rfl, rfl⟩ (And.intro v31 ?_))))
      obtain ⟨K, hK⟩ : ∃ K : zI, K = zup (zup J 0 31 (J 0 31 + 1)) 16 (tn + (4 - (k + 1))) (zby8 (sBy v k)) := ⟨_, rfl⟩
      have eb : vp_nar .byte ((v >>> ((8 : Int32) * nI k &&& 31)).toInt8.toInt32) = zby8 (sBy v k) := by rw [e8, zby_sh v (by omega)]; exact pk_vb _
      have qq := ih (by omega) K ?_ (fun j hj => ?_) (by rw [hK]; exact j34) (fun o j ho hh => ?_) (nI k + (-1)) (by rw [Int32.add_assoc, show (-1 : Int32) + 1 = 0 from rfl, Int32.add_zero])
      · rw [hK, ← eb, ← c31] at qq
        exact qq
      · rw [hK, zup_ne (by decide), zup_self, j31, nI_1]
        congr 1
        omega
      · rw [hK, zup_eq]
        by_cases d : j = tn + (4 - (k + 1))
        · rw [if_pos d]
          have es : sTxA tx tn v j = sBy v k := by
            unfold sTxA
            rw [if_pos (by omega)]
            congr 1
            omega
          rw [es]
          exact ⟨rfl, Nat.mod_lt _ (by decide)⟩
        · rw [if_neg d, zup_ne (by decide)]
          exact j16 j (by omega)
      · rw [hK, zup_ne ho]
        unfold zup
        by_cases d : o = 0
        · rw [if_pos d, if_neg (fun a => hh ⟨d, Or.inl a⟩)]
          exact jo o j ho hh
        · rw [if_neg d]
          exact jo o j ho hh
  refine key 4 (by omega) (zup I 0 34 0) h31 (fun j hj => ?_) rfl (fun o j ho hh => ?_) 3 rfl
  · have es : sTxA tx tn v j = tx j := by unfold sTxA; rw [if_neg (by omega)]
    rw [es, zup_ne (by decide)]
    exact hb j (by omega)
  · unfold zup
    by_cases d : o = 0
    · rw [if_pos d, if_neg (fun a => hh ⟨d, Or.inr a⟩)]
    · rw [if_neg d]
/-- what emptying and forgetting touch -/
def tSd (o k : Nat) : Bool := tE o k || Nat.beq o 29 || (Nat.beq o 0 && (Nat.beq k 34 || Nat.beq k 7 || Nat.beq k 8))
theorem tE_g : ∀ k, k < 9 → tE 0 k = false := by decide
theorem c_side {x : Int32} (hg : mG g I) (hc : mC c I) (hall : cAll c) (he : cEmp c) (h1 : ∀ v, x = nI v → v ≤ 1 → ∀ I' : zI, mG (fup g 8 v) I' → mC (cClr c) I' → (∀ i, i < 3 → I' 29 i = 0) → I' 0 34 = 0 → zFr tSd I I' → post (some (.int (nI (g 8)))) I' L (zR1 q)) (h0 : xOut x 2 → post (some (.int (-1))) (zup I 0 34 0) L (zR1 q)) : zC G (n + 3) 59 [.ref 0, .int x] I L (zR1 q) post := by
  refine zin0 rfl rfl rfl (b59_0 (c_in0N (m := 1) rfl (by omega) (fun v hv hv2 => And.intro (fun _ => b59_16 ?_) (fun w => absurd w (by decide))) (fun ho => And.intro (fun w => absurd rfl w) (fun _ => h0 ho))))
  subst hv
  refine c_emptyAll (mC_34 hc) hall he fun I1 hc1 hf1 => c_forgetKept fun I2 h29 ho2 => ?_
  have e8 : zup I 0 34 0 0 8 = nI (g 8) := mG0 hg 8 (by decide)
  have qq := h1 v rfl hv2 (zup I2 0 8 (nI v)) ?_ (mC_of hc1 (by rw [zup_ne (by decide), ho2 5 (by decide)]) (by rw [zup_ne (by decide), ho2 4 (by decide)]) (by rw [zup_k (by decide), ho2 0 (by decide)]) (by rw [zup_k (by decide), ho2 0 (by decide)]) (by rw [zup_k (by decide), ho2 0 (by decide)])) (fun i hi => by rw [zup_ne (by decide)]; exact h29 i hi) ?_ ?_
  · rw [← e8] at qq
    exact qq
  · refine ⟨?_, fun k hk => ?_⟩
    · obtain ⟨a0, a1, a2, a3, a4, a5, a6, a7, a8⟩ := hg.1
      exact ⟨a0, a1, a2, a3, a4, a5, a6, a7, hv2⟩
    · rw [zup_eq]
      show _ = nI (fup g 8 v k)
      unfold fup
      by_cases d : k = 8
      · rw [if_pos d, if_pos d]
      · rw [if_neg d, if_neg d, ho2 0 (by decide), hf1 0 k (tE_g k hk), zup_k (by omega)]
        exact mG0 hg k hk
  · rw [zup_k (by decide), ho2 0 (by decide), hf1 0 34 rfl]
    rfl
  · intro o k z
    unfold tSd at z
    simp only [Bool.or_eq_false_iff] at z
    have n29 : o ≠ 29 := fun a => by subst a; cases z.1.2
    unfold zup
    by_cases d : o = 0
    · subst d
      have k8 : k ≠ 8 := fun a => by subst a; cases z.2
      have k34 : k ≠ 34 := fun a => by subst a; cases z.2
      rw [if_pos rfl, if_neg k8, ho2 0 n29, hf1 0 k z.1.1, zup_k k34]
    · rw [if_neg d, ho2 o n29, hf1 o k z.1.1]
      unfold zup
      rw [if_neg d]
theorem c_likeness {b : Bool} (hg : mG g I) (hc : mC c I) (hall : cAll c) (he : cEmp c) (h1 : ∀ I' : zI, mG (fup g 7 (if b = true then 1 else 0)) I' → mC (cClr c) I' → (∀ i, i < 3 → I' 29 i = 0) → I' 0 34 = 0 → zFr tSd I I' → post (some (.int (nI (g 7)))) I' L (zR1 q)) : zC G (n + 3) 60 [.ref 0, .int (zbo b)] I L (zR1 q) post := by
  have g7 : g 7 ≤ 1 := hg.1.2.2.2.2.2.2.2.1
  have e7 : zup I 0 34 0 0 7 = nI (g 7) := mG0 hg 7 (by decide)
  have nar : narrow .boolean (.int (nI (g 7))) = .int (nI (g 7)) := by
    rcases (show g 7 = 0 ∨ g 7 = 1 by omega) with a | a <;> rw [a] <;> rfl
  refine zin0 rfl rfl rfl (b60_0 (c_emptyAll (mC_34 hc) hall he fun I1 hc1 hf1 => c_forgetKept fun I2 h29 ho2 => And.intro ⟨zbo_nar b, zbo_fit b⟩ ?_))
  have eb : zbo b = nI (if b = true then 1 else 0) := by cases b <;> rfl
  have qq := h1 (zup I2 0 7 (zbo b)) ?_ (mC_of hc1 (by rw [zup_ne (by decide), ho2 5 (by decide)]) (by rw [zup_ne (by decide), ho2 4 (by decide)]) (by rw [zup_k (by decide), ho2 0 (by decide)]) (by rw [zup_k (by decide), ho2 0 (by decide)]) (by rw [zup_k (by decide), ho2 0 (by decide)])) (fun i hi => by rw [zup_ne (by decide)]; exact h29 i hi) ?_ ?_
  · refine And.intro ?_ ?_
    · show narrow .boolean (.int (zup I 0 34 0 0 7)) = .int (zup I 0 34 0 0 7)
      rw [e7]
      exact nar
    · rw [← e7] at qq
      exact qq
  · refine ⟨?_, fun k hk => ?_⟩
    · obtain ⟨a0, a1, a2, a3, a4, a5, a6, a7, a8⟩ := hg.1
      exact ⟨a0, a1, a2, a3, a4, a5, a6, by show (if b = true then 1 else 0) ≤ 1; split <;> omega, a8⟩
    · rw [zup_eq]
      show _ = nI (fup g 7 (if b = true then 1 else 0) k)
      unfold fup
      by_cases d : k = 7
      · rw [if_pos d, if_pos d, eb]
      · rw [if_neg d, if_neg d, ho2 0 (by decide), hf1 0 k (tE_g k hk), zup_k (by omega)]
        exact mG0 hg k hk
  · rw [zup_k (by decide), ho2 0 (by decide), hf1 0 34 rfl]
    rfl
  · intro o k z
    unfold tSd at z
    simp only [Bool.or_eq_false_iff] at z
    have n29 : o ≠ 29 := fun a => by subst a; cases z.1.2
    unfold zup
    by_cases d : o = 0
    · subst d
      have k7 : k ≠ 7 := fun a => by subst a; cases z.2
      have k34 : k ≠ 34 := fun a => by subst a; cases z.2
      rw [if_pos rfl, if_neg k7, ho2 0 n29, hf1 0 k z.1.1, zup_k k34]
    · rw [if_neg d, ho2 o n29, hf1 o k z.1.1]
      unfold zup
      rw [if_neg d]
theorem c_sheet {k m fv st : Int32} (hfr : mF fr I) (h1 : (0 ≤ k ∧ k ≤ 3) → m ≤ 21 → (k ≠ 3 → 0 ≤ m) → ∀ I' : zI, mF (sShF k m fv st) I' → I' 0 34 = 0 → (∀ o j, o ≠ 6 → ¬ (o = 0 ∧ j = 34) → I' o j = I o j) → post (some (.int (if k = 3 then -3 else nI (sSum (sShF k m fv st) 21)))) I' L (zR1 q)) (h2 : (0 ≤ k ∧ k ≤ 3) → m ≤ 21 → k ≠ 3 → m < 0 → post (some (.int (-2))) (zup I 0 34 0) L (zR1 q)) (h0 : ¬ ((0 ≤ k ∧ k ≤ 3) ∧ m ≤ 21) → post (some (.int (-1))) (zup I 0 34 0) L (zR1 q)) : zC G (n + 2) 62 [.ref 0, .int k, .int m, .int fv, .int st] I L (zR1 q) post := by
  refine zin0 rfl rfl rfl (b62_0 (c_in ?_))
  by_cases z : 0 ≤ k ∧ k ≤ 3
  · rw [decide_eq_true z]
    refine And.intro (fun w => absurd w (by decide)) (fun _ => ?_)
    by_cases z2 : m ≤ 21
    · refine And.intro (fun _ => b62_22 ?_) (fun w => absurd z2 w)
      have main : (k ≠ 3 → 0 ≤ m) → zQ G 62 (n + 1) post 34 [some (.ref 0), some (.int k), some (.int m), some (.int fv), some (.int st), none, none, none, none] [] (zup I 0 34 0) L (zR1 q) := by
        intro hm0
        have h1 := h1 z z2 hm0
        have key : ∀ j s : Nat, s + j = 21 → ∀ J : zI, (∀ x, x < s → J 6 x = nI (sShF k m fv st x)) → (∀ o, o ≠ 6 → J o = zup I 0 34 0 o) → zQ G 62 (n + 1) post 43 [some (.ref 0), some (.int k), some (.int m), some (.int fv), some (.int st), some (.int (nI (sSum (sShF k m fv st) s))), some (.int (fv + nI s * st)), some (.int (nI s)), none] [] J L (zR1 q) := by
          intro j
          induction j with
          | zero =>
            intro s hs J hJ ho
            have e : s = 21 := by omega
            subst e
            have qq := h1 J (fun x hx => ⟨hJ x hx, sShF_le _ _ _ _ _⟩) (by rw [ho 0 (by decide)]; rfl) (fun o j ho6 hh => by
              rw [ho o ho6]
              unfold zup
              by_cases d : o = 0
              · rw [if_pos d, if_neg (fun a => hh ⟨d, a⟩)]
              · rw [if_neg d])
            refine b62_43 (pk_le 21 21 (fun _ => b62_133 ?_) (fun w => absurd w (by omega)) rfl rfl (by omega) (by omega))
            by_cases z3 : k = 3
            · rw [if_pos z3] at qq
              exact And.intro (fun w => absurd z3 w) (fun _ => b62_145 qq)
            · rw [if_neg z3] at qq
              exact And.intro (fun _ => b62_143 (b62_145 qq)) (fun w => absurd w z3)
          | succ j ih =>
            intro s hs J hJ ho
            have ec : (nI s).toNatClampNeg = s := nI_clamp (by omega)
            have vin : vp_in (nI s) 21 := vp_in_nI (by omega) (by decide)
            refine b62_43 (pk_le 21 s (fun w => absurd w (by omega)) (fun _ => ?_) rfl rfl (by omega) (by omega))
            -- the entry put
            have p107 : ∀ (x8 x : Int32), x = nI (sShF k m fv st s) → zQ G 62 (n + 1) post 107 [some (.ref 0), some (.int k), some (.int m), some (.int fv), some (.int st), some (.int (nI (sSum (sShF k m fv st) s))), some (.int (fv + nI s * st)), some (.int (nI s)), some (.int x8)] [.int x, .int (nI s), .ref 6] J L (zR1 q) := by
              intro x8 x hx
              subst hx
              refine b62_107 (And.intro vin (And.intro vin ?_))
              have q2 := ih (s + 1) (by omega) (zup J 6 (nI s).toNatClampNeg (nI (sShF k m fv st s))) (fun y hy => ?_) (fun o hh => by rw [zup_ne hh]; exact ho o hh)
              · have e1 : fv + nI (s + 1) * st = fv + nI s * st + st := by rw [nI_succ, Int32.add_mul, Int32.one_mul, ← Int32.add_assoc]
                have e2 : nI (sSum (sShF k m fv st) (s + 1)) = nI (sSum (sShF k m fv st) s) + zup J 6 (nI s).toNatClampNeg (nI (sShF k m fv st s)) 6 (nI s).toNatClampNeg := by rw [zup_self, nI_add]; rfl
                rw [e1, e2, ← nI_1] at q2
                exact zP_lv (by exact ⟨rfl, rfl, rfl, rfl, rfl, rfl, rfl, rfl, trivial⟩) q2
              · rw [ec, zup_eq]
                by_cases d : y = s
                · rw [if_pos d, d]
                · rw [if_neg d]
                  exact hJ y (by omega)
            have p73 : ∀ x : Int32, (k ≠ 3 → sEnt k (fv + nI s * st) = sClp x) → zQ G 62 (n + 1) post 73 [some (.ref 0), some (.int k), some (.int m), some (.int fv), some (.int st), some (.int (nI (sSum (sShF k m fv st) s))), some (.int (fv + nI s * st)), some (.int (nI s)), none] [.int x] J L (zR1 q) := by
              intro x hx
              refine b62_73 ?_
              by_cases z3 : k = 3
              · exact And.intro (fun _ => b62_92 (p107 x 0 (by rw [sShF_0 (Or.inl z3)]; rfl))) (fun w => absurd z3 w)
              · refine And.intro (fun w => absurd w z3) (fun _ => ?_)
                by_cases z4 : nI s < m
                · have z5 : ¬ (k = 3 ∨ m ≤ nI s) := by
                    rintro (w | w)
                    · exact z3 w
                    · exact Int32.not_lt.mpr w z4
                  exact And.intro (fun _ => b62_96 (p107 x _ ((zClp x).trans (by rw [sShF_1 z5, hx z3])))) (fun w => absurd z4 w)
                · exact And.intro (fun w => absurd w z4) (fun _ => b62_92 (p107 x 0 (by rw [sShF_0 (Or.inr (Int32.not_lt.mp z4))]; rfl)))
            by_cases k0 : k = 0
            · refine And.intro (fun w => absurd k0 w) (fun _ => p73 _ fun _ => ?_)
              unfold sEnt
              rw [if_pos k0]
            · refine And.intro (fun _ => b62_60 ?_) (fun w => absurd w k0)
              by_cases k1 : k = 1
              · refine And.intro (fun w => absurd k1 w) (fun _ => p73 _ fun _ => ?_)
                unfold sEnt
                rw [if_neg k0, if_pos k1]
              · refine And.intro (fun _ => b62_71 (p73 _ fun _ => ?_)) (fun w => absurd w k1)
                unfold sEnt
                rw [if_neg k0, if_neg k1]
        have q2 := key 21 0 (by omega) (zup I 0 34 0) (fun _ hx => absurd hx (by omega)) (fun _ _ => rfl)
        rw [show fv + nI 0 * st = fv by rw [show nI 0 = 0 from rfl, Int32.zero_mul, Int32.add_zero]] at q2
        exact b62_34 q2
      by_cases z3 : k = 3
      · refine And.intro (fun _ => main fun w => absurd z3 w) (fun w => absurd (by rw [z3]; exact Int32.le_refl _) w)
      · refine And.intro (fun w => ?_) (fun _ => ?_)
        · refine absurd (Int32.le_antisymm z.2 w) z3
        · by_cases z4 : 0 ≤ m
          · exact And.intro (fun _ => main fun _ => z4) (fun w => absurd z4 w)
          · exact And.intro (fun w => absurd w z4) (fun _ => h2 z z2 z3 (Int32.not_le.mp z4))
    · refine And.intro (fun w => absurd w z2) (fun _ => b62_20 (h0 fun w => z2 w.2))
  · rw [decide_eq_false z]
    refine And.intro (fun _ => b62_20 (h0 fun w => z w.1)) (fun w => absurd rfl w)
end
