-- ===== the reference: the call ways =====
theorem sCat_ne {α : Type} {f : Nat → List α} {k : Nat} (h : f k ≠ []) : ∀ n, k < n → sCat f n ≠ []
  | 0, hk => absurd hk (Nat.not_lt_zero _)
  | n + 1, hk => by
    rw [sCat]
    intro e
    obtain ⟨e1, e2⟩ := List.append_eq_nil_iff.mp e
    by_cases c : k = n
    · subst c; exact h e2
    · exact sCat_ne h n (by omega) e1
theorem sSum_some {f : Nat → Nat} : ∀ n, sSum f n ≠ 0 → ∃ k, k < n ∧ f k ≠ 0
  | 0, h => absurd rfl h
  | n + 1, h => by
    by_cases c : f n = 0
    · have : sSum f n ≠ 0 := fun z => h (by show sSum f n + f n = 0; omega)
      obtain ⟨k, hk, hf⟩ := sSum_some n this
      exact ⟨k, by omega, hf⟩
    · exact ⟨n, by omega, c⟩
theorem sWy_ne {g : zg} (hg : gOk g) {fr : Nat → Nat} {rl : zrl} {ru : Option Nat} {F : zfo} (hok : foOk F) : ∀ (n gl p : Nat) (c : sC) (ds : List (Nat × Nat)) (ch : Nat), gl * 22 + sDep g p < n → sR g p → cIn g c → (∀ d, d ∈ ds → c.2.1 d.1 = true ∧ sHas g d.1 d.2 = true) → sWy g fr rl ru F n gl p c ds ch ≠ [] := by
  intro n
  induction n with
  | zero => intro gl p c ds ch h; omega
  | succ n ih =>
    intro gl p c ds ch hn hr hin hd
    have hdf := sDep_first g hg
    rw [sWy]
    by_cases z : gl = 0
    · rw [if_pos z]; exact fun w => by cases w
    · rw [if_neg z]
      by_cases z2 : sWork g p < 2
      · rw [if_pos z2]
        by_cases z3 : sWork g p = g 8
        · rw [if_pos z3]
          obtain ⟨o1, o2, o3⟩ := sOpn_in hg (fr := fr) hin hr z3
          have hdo : ∀ d, d ∈ ds → (sOpn g fr c (sBox g p)).2.1 d.1 = true ∧ sHas g d.1 d.2 = true := fun d hx => ⟨o3 _ (hd d hx).1, (hd d hx).2⟩
          by_cases z4 : sInB (sOpn g fr c (sBox g p)) (sBox g p) = 0
          · rw [if_pos z4]
            refine ih _ _ _ _ _ ?_ (sR_first g) (sPayAll_in hg o1 hdo (fun b hb => by injection hb with hb; rw [← hb]; exact o2)).1 (fun d hx => by cases hx)
            have hd1 : 1 ≤ sDep g p := by
              obtain ⟨m, hm2⟩ := sCan_some hg z2
              have := sDep_lt hg hm2
              omega
            omega
          · rw [if_neg z4]
            obtain ⟨k, hk, hne⟩ := sSum_some 9 z4
            have hhas := (o1.2.2 (sBox g p) k hk hne).2
            have hcb := (sHas_lt hg hhas).2
            have hcan := sMv_can hg hcb
            have hdl := sDep_lt hg hcan
            refine sCat_ne (k := k) ?_ _ (sCan_lt hcb)
            rw [if_neg hne]
            refine ih _ _ _ _ _ (by omega) (sR_step hr z2 hcan) o1 (fun d hx => ?_)
            rcases List.mem_append.mp hx with y | y
            · exact hdo d y
            · rw [List.mem_singleton.mp y]
              exact ⟨o2, hhas⟩
        · rw [if_neg z3]
          refine sCat_ne (k := 0) ?_ _ (by have := hok.1.1; omega)
          split
          · obtain ⟨m, hm⟩ := sCan_some hg z2
            have hdl := sDep_lt hg hm
            refine sCat_ne (k := m) ?_ _ (sCan_lt hm)
            rw [if_pos hm]
            exact ih _ _ _ _ _ (by omega) (sR_step hr z2 hm) hin hd
          · have hcan := sFMv_can hg (F := F) (k := 0) z2
            have hdl := sDep_lt hg hcan
            exact ih _ _ _ _ _ (by omega) (sR_step hr z2 hcan) hin hd
      · rw [if_neg z2]
        exact ih _ _ _ _ _ (by omega) (sR_first g) (sPayAll_in hg hin hd (fun b hb => by cases hb)).1 (fun d hx => by cases hx)
def sWw (g : zg) (fr : Nat → Nat) (rl : zrl) (ru : Option Nat) (F : zfo) (c : sC) (k : Nat) : List (Nat × Nat) := sWy g fr rl ru F 100 k (sFirst g) c [] 1000000000
def sWa (W : List (Nat × Nat)) : zwa := W.foldl wAcc (0, 0, 0, 0, 0)
section
variable {G : zG} {n : Nat} {I : zI} {L : zL} {q : zq} {post : zPo} {g : zg} {c : sC} {fr : Nat → Nat} {f nr nf : Nat} {F : zfo} {rl : zrl} {ru : Option Nat}
def tWs (o k : Nat) : Bool := tWy o k || (Nat.beq o 0 && (Nat.beq k 33 || Nat.beq k 34 || Nat.beq k 35))
theorem tWy_tWs {I' : zI} (h : zFr tWy I I') : zFr tWs I I' := fun o k z => h o k (by
  unfold tWs at z
  simp only [Bool.or_eq_false_iff] at z
  exact z.1)
theorem c_ways0 {x y : Int32} (h8 : nf ≤ 8) (h23 : I 0 23 = nI nf) (hx : xOut x nf) (h : post (some (.int (-1))) (zup I 0 34 0) L (zR1 q)) : zC G (n + 3) 105 [.ref 0, .int x, .int y] I L (zR1 q) post := zin0 rfl rfl rfl (b105_0 (c_isFoe0 h8 h23 hx (And.intro (fun _ => b105_22 h) (fun z => absurd rfl z))))
theorem c_ways {y : Int32} (hw : gW g fr nr rl ru f F c I L) (hf : f < nf) (h8 : nf ≤ 8) (h23 : I 0 23 = nI nf) (hok : foOk F) (h1 : ∀ k, y = nI k → k ≤ 3 → (sWw g fr rl ru F c k).length ≤ 3000 → ∀ (I' : zI) (L' : zL), mC c I' → mRow [lN (sWa (sWw g fr rl ru F c k)).1, lN (sWa (sWw g fr rl ru F c k)).2.1, lN (sWa (sWw g fr rl ru F c k)).2.2.1, lN (sWa (sWw g fr rl ru F c k)).2.2.2.1, lN (sWa (sWw g fr rl ru F c k)).2.2.2.2] I' L' → I' 0 34 = 0 → I' 0 35 = 0 → zFr tWs I I' → (∀ o j, o ≠ 17 → ¬ (o = 0 ∧ (j = 53 ∨ j = 54)) → L' o j = L o j) → post (some (.int 0)) I' L' (zR1 q)) (h3 : ∀ k, y = nI k → k ≤ 3 → 3000 < (sWw g fr rl ru F c k).length → ∀ (I' : zI) (L' : zL), mC c I' → I' 0 34 = 0 → I' 0 35 = 0 → I' 0 33 = I 0 33 → zFr tWs I I' → (∀ o j, ¬ (o = 0 ∧ (j = 53 ∨ j = 54)) → L' o j = L o j) → post (some (.int (-3))) I' L' (zR1 q)) (h0 : xOut y 4 → post (some (.int (-1))) (zup I 0 34 0) L (zR1 q)) : zC G (n + 280) 105 [.ref 0, .int (nI f), .int y] I L (zR1 q) post := by
  obtain ⟨a1, a2, a3, a4, a5, a6, a7, a8⟩ := id hw
  have hgo := a1.1
  have hdf := sDep_first g hgo
  refine zin0 rfl rfl rfl (b105_0 (c_isFoe1 hf h8 h23 (And.intro (fun z => absurd z (by decide)) (fun _ => c_in0N (m := 3) rfl (by omega) (fun k hk hk2 => ?_) (fun ho => And.intro (fun z => absurd rfl z) (fun _ => b105_22 (h0 ho)))))))
  subst hk
  have h1 := h1 k rfl hk2
  have h3 := h3 k rfl hk2
  refine And.intro (fun _ => b105_24 (And.intro ⟨rfl, rfl⟩ ?_)) (fun z => absurd z (by decide))
  obtain ⟨I1, hI1⟩ : ∃ I1 : zI, I1 = zup (zup (zup (zup I 0 34 0) 0 52 0) 0 35 1) 0 36 0 := ⟨_, rfl⟩
  obtain ⟨L1, hL1⟩ : ∃ L1 : zL, L1 = zup (zup L 0 53 0) 0 54 0 := ⟨_, rfl⟩
  have i1o : ∀ o j, ¬ (o = 0 ∧ (j = 34 ∨ j = 52 ∨ j = 35 ∨ j = 36)) → I1 o j = I o j := fun o j hh => by
    rw [hI1]
    unfold zup
    by_cases d : o = 0
    · rw [if_pos d, if_neg (fun w => hh ⟨d, by omega⟩), if_pos d, if_neg (fun w => hh ⟨d, by omega⟩), if_pos d, if_neg (fun w => hh ⟨d, by omega⟩), if_pos d, if_neg (fun w => hh ⟨d, by omega⟩)]
    · rw [if_neg d, if_neg d, if_neg d, if_neg d]
  have hl1 : lWy L L1 := fun o j hh => by
    rw [hL1]
    unfold zup
    by_cases d : o = 0
    · rw [if_pos d, if_neg (fun w => hh ⟨d, by omega⟩), if_pos d, if_neg (fun w => hh ⟨d, by omega⟩)]
    · rw [if_neg d, if_neg d]
  have hc1 : mC c I1 := mC_of a7 (funext fun j => i1o 5 j (by omega)) (funext fun j => i1o 4 j (by omega)) (i1o 0 14 (by omega)) (i1o 0 15 (by omega)) (i1o 0 16 (by omega))
  have hg1 : mG g I1 := ⟨hgo, fun j hj => by rw [i1o 0 j (by omega)]; exact a1.2 j hj⟩
  have hw1 : wyW g fr nr rl ru f F I1 L1 := by
    have x : ∀ o, o ≠ 0 → I1 o = I o := fun o ho => funext fun j => i1o o j (by omega)
    refine ⟨hg1, mPos_of a2 (x 1 (by decide)) (x 2 (by decide)) (x 3 (by decide)), fun s hs => by rw [x 6 (by decide)]; exact a3 s hs, ?_, mRl_of a5 (i1o 0 18 (by omega)) (i1o 0 22 (by omega)) (x 7 (by decide)) (x 8 (by decide)) (x 9 (by decide))⟩
    unfold mFo1
    rw [x 10 (by decide), x 11 (by decide), x 12 (by decide), x 14 (by decide), show L1 13 = L 13 from funext fun j => hl1 13 j (by omega)]
    exact a4
  show zC G (n + 279) 8 [.ref 0] (zup (zup (zup (zup I 0 34 0) 0 52 0) 0 35 1) 0 36 0) (zup (zup L 0 53 0) 0 54 0) (zR1 q) _
  rw [← hI1, ← hL1]
  refine c_first hg1 ?_
  have e0 : (0 : Int32) = nI (k - k) := by rw [Nat.sub_self]; rfl
  have e00 : (0 : Int32) = nI ([] : List (Nat × Nat)).length := rfl
  have hne := sWy_ne hgo (fr := fr) (rl := rl) (ru := ru) hok 100 k (sFirst g) c [] 1000000000 (by omega) (sR_first g) a6 (fun d hx => by cases hx)
  have hgoal : ∀ K : zPo, (∀ (b : Bool) (I' : zI) (L' : zL), wyR (0, 0, 0, 0, 0) (sWw g fr rl ru F c k) b I' L' → mC c I' → mU (some []) I' → zFr tWy I1 I' → lWy L1 L' → K (some (.int (zbo b))) I' L' (zR1 q)) → zC G (n + 279) 100 [.ref 0, .int 0, .int (nI k), .int (nI (sFirst g)), .int 0, .long 1000000000, .int (nI f)] I1 L1 (zR1 q) K := by
    intro K hK
    have qq : zC G (n + 279) 100 [.ref 0, .int (nI (k - k)), .int (nI k), .int (nI (sFirst g)), .int (nI ([] : List (Nat × Nat)).length), .long (lN 1000000000), .int (nI f)] I1 L1 (zR1 q) K := by
      refine wy_all (gs := k) hk2 (by omega) hok 100 k (sFirst g) (n + 279) 1000000000 c [] [] (0, 0, 0, 0, 0) I1 L1 K (by omega) (Nat.le_refl _) (by omega) hw1 (sR_first g) a6 hc1 ⟨by rw [hI1]; rfl, by rw [hI1]; rfl, fun i e he => by cases he⟩ (by show 0 + 1000 * k + 19 * sDep g (sFirst g) ≤ 20000; omega) ⟨Nat.zero_le _, by rw [hI1]; rfl, by rw [hL1]; rfl, by rw [hL1]; rfl, Nat.zero_le _, Nat.zero_le _, fun z => absurd rfl z⟩ (Nat.le_refl _) (by show 0 + sDep g (sFirst g) ≤ 20; omega) (fun d hx => by cases hx) (fun j d hj => by cases hj) fun b I' L' y1 y2 y3 y4 y5 _ => hK b I' L' y1 y2 y3 y4 y5
    rw [← e0, ← e00] at qq
    exact qq
  refine hgoal _ fun b I2 L2 r2 hc2 hu2 hf2 hl2 => ?_
  show zC G (n + 279) 34 [.ref 0, .int (nI ([] : List (Nat × Nat)).length)] I2 L2 (zR1 q) _
  refine c_takeBack (es := []) (fs := []) hu2 hc2 (fun e he => by cases he) (by decide) fun I3 hu3 hc3 hf3 => And.intro ⟨rfl, rfl⟩ ?_
  have r3 := wyR_tC r2 hf3
  have hf13 : zFr tWy I1 I3 := zFr_tr hf2 (tC_tWy hf3)
  have hlL : ∀ o j, ¬ (o = 0 ∧ (j = 53 ∨ j = 54)) → L2 o j = L o j := fun o j hh => (hl2 o j hh).trans (hl1 o j hh)
  have frame : ∀ I4 : zI, (∀ o j, ¬ (o = 0 ∧ (j = 33 ∨ j = 35)) → I4 o j = I3 o j) → zFr tWs I I4 := fun I4 ho o j z => by
    have z0 := z
    unfold tWs at z
    simp only [Bool.or_eq_false_iff] at z
    rw [ho o j (fun ⟨w1, w2⟩ => by subst w1; rcases w2 with w2 | w2 <;> subst w2 <;> cases z.2), hf13 o j z.1, i1o o j (fun ⟨w1, w2⟩ => by subst w1; rcases w2 with w2 | w2 | w2 | w2 <;> subst w2 <;> first | (cases z.2; done) | (cases z.1; done))]
  have e34 : I3 0 34 = 0 := by rw [hf13 0 34 rfl, hI1]; rfl
  have e33 : I3 0 33 = I 0 33 := by rw [hf13 0 33 rfl, i1o 0 33 (by omega)]
  cases b with
  | false =>
    refine And.intro (fun z => absurd rfl z) (fun _ => ?_)
    refine h3 ?_ (zup I3 0 35 0) L2 (mC_of hc3 (zup_ne (by decide)) (zup_ne (by decide)) rfl rfl rfl) e34 zup_self e33 (frame _ fun o j hh => ?_) hlL
    · unfold wyR at r3
      by_cases z : (0, 0, 0, 0, 0).1 + (sWw g fr rl ru F c k).length ≤ 3000
      · rw [if_pos z] at r3
        cases r3.1
      · have z : ¬ 0 + (sWw g fr rl ru F c k).length ≤ 3000 := z
        omega
    · unfold zup
      by_cases d : o = 0
      · rw [if_pos d, if_neg (fun w => hh ⟨d, by omega⟩)]
      · rw [if_neg d]
  | true =>
    obtain ⟨hlen, hm3⟩ := wyR_t r3
    have hlen : 0 + (sWw g fr rl ru F c k).length ≤ 3000 := hlen
    have hm3 : mWy (sWa (sWw g fr rl ru F c k)) I3 L2 := hm3
    have hn1 : (sWa (sWw g fr rl ru F c k)).1 = 0 + (sWw g fr rl ru F c k).length := wAcc_n _ _
    have hn0 : (sWa (sWw g fr rl ru F c k)).1 ≠ 0 := by
      rw [hn1]
      intro w
      exact hne (List.length_eq_zero_iff.mp (by show (sWw g fr rl ru F c k).length = 0; omega))
    have h1 := h1 (by omega)
    generalize sWa (sWw g fr rl ru F c k) = A at *
    obtain ⟨m1, m2, m3, m4, m5, m6, m7⟩ := hm3
    have m7 := m7 hn0
    refine And.intro (fun _ => b105_82 ?_) (fun z => absurd z (by decide))
    obtain ⟨I4, hI4⟩ : ∃ I4 : zI, I4 = zup (zup I3 0 35 0) 0 33 0 := ⟨_, rfl⟩
    have i4o : ∀ o j, ¬ (o = 0 ∧ (j = 33 ∨ j = 35)) → I4 o j = I3 o j := fun o j hh => by
      rw [hI4]
      unfold zup
      by_cases d : o = 0
      · rw [if_pos d, if_neg (fun w => hh ⟨d, by omega⟩), if_pos d, if_neg (fun w => hh ⟨d, by omega⟩)]
      · rw [if_neg d, if_neg d]
    have i4r : I4 0 33 = 0 := by rw [hI4, zup_self]
    have i435 : I4 0 35 = 0 := by rw [hI4]; rfl
    show zC G (n + 279) 4 [.ref 0, .long (zup (zup I3 0 35 0) 0 33 0 0 52).toInt64] (zup (zup I3 0 35 0) 0 33 0) L2 (zR1 q) _
    rw [← hI4, i4o 0 52 (by omega), m2, nI_l (by omega)]
    refine c_tell (l := []) (mRow_0 i4r) (by show 0 < 32; omega) fun I5 L5 hr5 hf5 hl5 => ?_
    show zC G (n + 279) 4 [.ref 0, .long (L5 0 53)] I5 L5 (zR1 q) _
    rw [hl5 0 (by decide), m3]
    refine c_tell hr5 (by show 1 < 32; omega) fun I6 L6 hr6 hf6 hl6 => ?_
    show zC G (n + 279) 4 [.ref 0, .long (L6 0 54)] I6 L6 (zR1 q) _
    rw [hl6 0 (by decide), hl5 0 (by decide), m4]
    refine c_tell hr6 (by show 2 < 32; omega) fun I7 L7 hr7 hf7 hl7 => ?_
    have i7o : ∀ o j, ¬ (o = 0 ∧ j = 33) → I7 o j = I4 o j := fun o j hh => (hf7 o j hh).trans ((hf6 o j hh).trans (hf5 o j hh))
    show zC G (n + 279) 4 [.ref 0, .long (I7 0 55).toInt64] I7 L7 (zR1 q) _
    rw [i7o 0 55 (by omega), i4o 0 55 (by omega), m7.1, nI_l (by omega)]
    refine c_tell hr7 (by show 3 < 32; omega) fun I8 L8 hr8 hf8 hl8 => ?_
    show zC G (n + 279) 4 [.ref 0, .long (I8 0 56).toInt64] I8 L8 (zR1 q) _
    rw [hf8 0 56 (by omega), i7o 0 56 (by omega), i4o 0 56 (by omega), m7.2, nI_l (by omega)]
    refine c_tell hr8 (by show 4 < 32; omega) fun I9 L9 hr9 hf9 hl9 => ?_
    have i9o : ∀ o j, ¬ (o = 0 ∧ j = 33) → I9 o j = I4 o j := fun o j hh => (hf9 o j hh).trans ((hf8 o j hh).trans (i7o o j hh))
    refine h1 I9 L9 ?_ hr9 ?_ ?_ (frame I9 fun o j hh => (i9o o j (by omega)).trans (i4o o j hh)) (fun o j ho hh => ?_)
    · exact mC_of hc3 (funext fun j => (i9o 5 j (by omega)).trans (i4o 5 j (by omega))) (funext fun j => (i9o 4 j (by omega)).trans (i4o 4 j (by omega))) ((i9o 0 14 (by omega)).trans (i4o 0 14 (by omega))) ((i9o 0 15 (by omega)).trans (i4o 0 15 (by omega))) ((i9o 0 16 (by omega)).trans (i4o 0 16 (by omega)))
    · rw [i9o 0 34 (by omega), i4o 0 34 (by omega)]
      exact e34
    · rw [i9o 0 35 (by omega)]
      exact i435
    · rw [hl9 o ho, hl8 o ho, hl7 o ho, hl6 o ho, hl5 o ho]
      exact hlL o j hh
end
