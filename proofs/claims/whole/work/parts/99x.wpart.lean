-- ===== calls on both: part =====
theorem sNwk_f {rl : zrl} {ft : Nat → Bool} {r e i q : Nat} (h : sNwk rl ft r e i q = false) : ∀ k, sNwk rl ft r e i (q + k) = false
  | 0 => h
  | k + 1 => by
    show sNwk rl ft r e i (q + k + 1) = false
    rw [sNwk, sNwk_f h k]
    rfl
theorem sNwk_1 {rl : zrl} {ft : Nat → Bool} {r e i : Nat} : ∀ o, (∀ x, x < o → ft x = false) → sNwk rl ft r e i o = true
  | 0, _ => rfl
  | o + 1, h => by
    rw [sNwk, sNwk_1 o (fun x hx => h x (by omega)), h o (by omega)]
    rfl
theorem sPn_0 {rl : zrl} {ft : Nat → Bool} {nr k : Nat} (h : ∀ r, r < nr → ft r = false) : sPn rl ft nr k = 0 := by
  have := sCB_bd (f := fun r => ft r && sNwk rl ft r (k / 10) (k % 10) r) (b := 0) nr (fun x hx w => by
    rw [h x hx] at w
    cases w)
  exact Nat.le_zero.mp this
theorem sPt_0 {rl : zrl} {ft : Nat → Bool} {nr : Nat} (h : sFB ft nr = 0) : ∀ k, (sPt rl ft nr k).1 = 0
  | 0 => rfl
  | k + 1 => by
    rw [sPt, sPn_0 ((sFB_0 ft nr).mp h), if_neg (Nat.not_lt_zero _)]
    exact sPt_0 h k
theorem sPt_1 {rl : zrl} {ft : Nat → Bool} {nr : Nat} (h : sFB ft nr ≠ 0) : 1 ≤ (sPt rl ft nr 30).1 := by
  have ex : ∃ r, r < nr ∧ ft r = true := by
    refine Classical.byContradiction fun w => h ((sFB_0 ft nr).mpr fun r hr => ?_)
    cases e : ft r with
    | false => rfl
    | true => exact absurd ⟨r, hr, e⟩ w
  obtain ⟨r, ⟨hr, hf⟩, hl⟩ := pk_least (fun r => r < nr ∧ ft r = true) ex
  have f1 : (fun r => ft r && sNwk rl ft r (0 / 10) (0 % 10) r) r = true := by
    show (ft r && sNwk rl ft r (0 / 10) (0 % 10) r) = true
    rw [hf, sNwk_1 r (fun x hx => by
      cases e : ft x with
      | false => rfl
      | true => exact absurd ⟨by omega, e⟩ (hl x hx))]
    rfl
  have p0 : 1 ≤ sPn rl ft nr 0 := by
    have : sCB (fun r => ft r && sNwk rl ft r (0 / 10) (0 % 10) r) r < sPn rl ft nr 0 := sCB_lt f1 nr hr
    omega
  have more : ∀ k, 1 ≤ (sPt rl ft nr (k + 1)).1 := by
    intro k
    induction k with
    | zero =>
      rw [sPt]
      split
      · exact p0
      · rename_i w
        exact absurd (show (sPt rl ft nr 0).1 < sPn rl ft nr 0 from p0) w
    | succ k ih =>
      rw [sPt]
      split
      · show 1 ≤ sPn rl ft nr (k + 1)
        omega
      · exact ih
  exact more 29
section
variable {G : zG} {n : Nat} {I : zI} {L : zL} {R : zR} {q : zq} {post : zPo} {g : zg} {c : sC} {fr : Nat → Nat} {nr : Nat} {rl : zrl} {ru : Option Nat} {nf : Nat} {fo : Nat → zfo} {en : Nat → Int32} {tx : Nat → Nat} {tn : Nat} {kp : Nat → Bool} {kc : Nat → sC} {wa : List zwt} {ro : List Int64} {t : Nat}
theorem k_countUnlike {bits e i : Nat} {ft : Nat → Bool} (hb : bits < 2 ^ 31) (hbit : ∀ o, o < 8 → bits.testBit o = (decide (o < nr) && ft o)) (hR : kRs nr rl ru I) (he : e < 3) (hi : i < 20) (h : post (some (.int (nI (sCB (fun r => ft r && sNwk rl ft r e i r) nr)))) I L (zR1 q)) : zC G (n + 3) 305 [.ref 40, .int (nI bits), .int (nI e), .int (nI i)] I L (zR1 q) post := by
  have n8 := hR.1
  have bd : ∀ r, sCB (fun r => ft r && sNwk rl ft r e i r) r ≤ r := sCB_le _
  have key : ∀ (j r : Nat) (v6 v7 : Option Value), r + j = 8 → zQ G 305 (n + 2) post 6 [some (.ref 40), some (.int (nI bits)), some (.int (nI e)), some (.int (nI i)), some (.int (nI (sCB (fun r => ft r && sNwk rl ft r e i r) (min r nr)))), some (.int (nI r)), v6, v7] [] I L (zR1 q) := by
    intro j
    induction j with
    | zero =>
      intro r v6 v7 hr
      have e8 : r = 8 := by omega
      subst e8
      refine b305_6 (pk_le 8 8 (fun _ => b305_106 ?_) (fun z => absurd z (by omega)) rfl rfl (by omega) (by omega))
      rw [Nat.min_eq_right n8]
      exact h
    | succ j ih =>
      intro r v6 v7 hr
      have hr8 : r < 8 := by omega
      have cb := bd (min r nr)
      -- behind the inner loop
      have at92 : ∀ b : Bool, (b = true ↔ r < nr ∧ (ft r && sNwk rl ft r e i r) = true) → ∀ v7, zQ G 305 (n + 2) post 92 [some (.ref 40), some (.int (nI bits)), some (.int (nI e)), some (.int (nI i)), some (.int (nI (sCB (fun r => ft r && sNwk rl ft r e i r) (min r nr)))), some (.int (nI r)), some (.int (zbo b)), v7] [] I L (zR1 q) := fun b hb2 v7 => by
        have qq := ih (r + 1) (some (.int (zbo b))) v7 (by omega)
        refine b305_92 (zbo_eq (fun d => b305_100 ?_) (fun d => b305_100 ?_))
        · have es : sCB (fun r => ft r && sNwk rl ft r e i r) (min (r + 1) nr) = sCB (fun r => ft r && sNwk rl ft r e i r) (min r nr) := by
            by_cases c0 : r < nr
            · rw [Nat.min_eq_left (by omega), Nat.min_eq_left (by omega), sCB, if_neg (fun w => by rw [hb2.mpr ⟨c0, w⟩] at d; cases d), Nat.add_zero]
            · rw [Nat.min_eq_right (by omega), Nat.min_eq_right (by omega)]
          rw [es, ← nI_1] at qq
          exact qq
        · obtain ⟨c0, c1⟩ := hb2.mp d
          have es : sCB (fun r => ft r && sNwk rl ft r e i r) (min (r + 1) nr) = sCB (fun r => ft r && sNwk rl ft r e i r) (min r nr) + 1 := by
            rw [Nat.min_eq_left (by omega), Nat.min_eq_left (by omega), sCB, if_pos c1]
          rw [es, ← nI_1, ← nI_1] at qq
          exact qq
      refine b305_6 (pk_le 8 r (fun z => absurd z (by omega)) (fun _ => k_holds rfl hb rfl (by omega) ?_) rfl rfl (by omega) (by omega))
      rw [hbit r hr8]
      by_cases hrn : r < nr
      · rw [decide_eq_true hrn, Bool.true_and]
        have inner : ∀ k o : Nat, o + k = r → zQ G 305 (n + 2) post 27 [some (.ref 40), some (.int (nI bits)), some (.int (nI e)), some (.int (nI i)), some (.int (nI (sCB (fun r => ft r && sNwk rl ft r e i r) (min r nr)))), some (.int (nI r)), some (.int (zbo (ft r && sNwk rl ft r e i o))), some (.int (nI o))] [] I L (zR1 q) := by
          intro k
          induction k with
          | zero =>
            intro o ho
            have eo : o = r := by omega
            subst eo
            exact b305_27x (pk_le o o (fun _ => at92 _ ⟨fun w => ⟨hrn, w⟩, fun w => w.2⟩ _) (fun z => absurd z (by omega)) rfl rfl (by omega) (by omega))
          | succ k ihk =>
            intro o ho
            have hor : o < r := by omega
            have q2 := ihk (o + 1) (by omega)
            rw [← nI_1] at q2
            refine b305_27x (pk_le r o (fun z => absurd z (by omega)) (fun _ => zbo_eq (fun d => ?_) (fun d => ?_)) rfl rfl (by omega) (by omega))
            · have z : (ft r && sNwk rl ft r e i r) = false := by
                cases ef : ft r with
                | false => rfl
                | true =>
                  rw [ef, Bool.true_and] at d
                  have := sNwk_f d (r - o)
                  rw [show o + (r - o) = r by omega] at this
                  rw [this]
                  rfl
              rw [d]
              exact at92 false ⟨(fun w => by cases w), fun w => by rw [z] at w; cases w.2⟩ _
            · have d1 : ft r = true := (Bool.and_eq_true_iff.mp d).1
              have d2 : sNwk rl ft r e i o = true := (Bool.and_eq_true_iff.mp d).2
              have at84 : ∀ b : Bool, b = (ft r && sNwk rl ft r e i (o + 1)) → ∀ v6, zQ G 305 (n + 2) post 84 [some (.ref 40), some (.int (nI bits)), some (.int (nI e)), some (.int (nI i)), some (.int (nI (sCB (fun r => ft r && sNwk rl ft r e i r) (min r nr)))), some (.int (nI r)), v6, some (.int (nI o))] [.int (zbo b)] I L (zR1 q) := fun b hb2 v6 => by
                rw [← hb2] at q2
                exact b305_84 q2
              have one : (ft o && decide (sPd rl o e i 50 = sPd rl r e i 50)) = false → ∀ v6, zQ G 305 (n + 2) post 79 [some (.ref 40), some (.int (nI bits)), some (.int (nI e)), some (.int (nI i)), some (.int (nI (sCB (fun r => ft r && sNwk rl ft r e i r) (min r nr)))), some (.int (nI r)), v6, some (.int (nI o))] [] I L (zR1 q) := fun w v6 => b305_79 (at84 true (by rw [d1, sNwk, d2, w]; rfl) v6)
              have zero : (ft o && decide (sPd rl o e i 50 = sPd rl r e i 50)) = true → ∀ v6, zQ G 305 (n + 2) post 83 [some (.ref 40), some (.int (nI bits)), some (.int (nI e)), some (.int (nI i)), some (.int (nI (sCB (fun r => ft r && sNwk rl ft r e i r) (min r nr)))), some (.int (nI r)), v6, some (.int (nI o))] [] I L (zR1 q) := fun w v6 => b305_83 (at84 false (by rw [d1, sNwk, d2, w]; rfl) v6)
              rw [d]
              refine k_holds rfl hb rfl (by omega) ?_
              rw [hbit o (by omega), decide_eq_true (show o < nr by omega), Bool.true_and]
              refine zbo_eq (fun w => one (by rw [w]; rfl) _) (fun w => ?_)
              have b1 := sPd_bd (hR.2.2.2.2 o (by omega)).2 he hi (b := 50) (by omega)
              have b2 := sPd_bd (hR.2.2.2.2 r hrn).2 he hi (b := 50) (by omega)
              have l1 := fun post' hp => k_leavesR (G := G) (n := n) (I := I) (L := L) (q := q) (post := post') (e := e) (i := i) (b := 50) rfl rfl rfl hR (show o < nr by omega) he hi (by omega) hp
              have l2 := fun post' hp => k_leavesR (G := G) (n := n) (I := I) (L := L) (q := q) (post := post') (e := e) (i := i) (b := 50) rfl rfl rfl hR hrn he hi (by omega) hp
              have eo : zR1 q 70 (nI o).toNatClampNeg = some (107 + 3 * o) := by
                rw [nI_clamp (by omega)]
                exact zR_rule o (by omega)
              have er : zR1 q 70 (nI r).toNatClampNeg = some (107 + 3 * r) := by
                rw [nI_clamp (by omega)]
                exact zR_rule r (by omega)
              have vo : vp_in (nI o) 8 := vp_in_nI (by omega) (by decide)
              have vr : vp_in (nI r) 8 := vp_in_nI (by omega) (by decide)
              have dec := fun v6 : Option Value => pk_eq (sPd rl o e i 50) (sPd rl r e i 50) (fun w2 => zero (by rw [w, decide_eq_true w2]; rfl) v6) (fun w2 => one (by rw [w, decide_eq_false w2]; rfl) v6) rfl rfl (by omega) (by omega)
              show zck ("BoxesWithBeads$Rule" == zcn 8 && Nat.blt 8 zncl) (vp_in (nI o) 8 ∧ _)
              refine zck_t zs_rule (And.intro vo ?_)
              rw [eo]
              have co : o = 0 ∨ o = 1 ∨ o = 2 ∨ o = 3 ∨ o = 4 ∨ o = 5 ∨ o = 6 ∨ o = 7 := by omega
              rcases co with rfl | rfl | rfl | rfl | rfl | rfl | rfl | rfl <;> (
                refine l1 _ ?_
                show zck ("BoxesWithBeads$Rule" == zcn 8 && Nat.blt 8 zncl) (vp_in (nI r) 8 ∧ _)
                refine zck_t zs_rule (And.intro vr ?_)
                rw [er]
                have cr : r = 0 ∨ r = 1 ∨ r = 2 ∨ r = 3 ∨ r = 4 ∨ r = 5 ∨ r = 6 ∨ r = 7 := by omega
                rcases cr with rfl | rfl | rfl | rfl | rfl | rfl | rfl | rfl <;> exact l2 _ (dec _))
        exact (by
          have q3 := inner r 0 (by omega)
          rw [show sNwk rl ft r e i 0 = true from rfl, Bool.and_true] at q3
          exact q3)
      · rw [decide_eq_false hrn, Bool.false_and]
        have f92 := at92 false ⟨(fun w => by cases w), fun w => absurd w.1 hrn⟩
        refine b305_27x (pk_le r 0 (fun _ => f92 _) (fun _ => zbo_eq (fun _ => f92 _) (fun d => by cases d)) rfl rfl (by omega) (by omega))
  exact zin0 rfl rfl rfl (b305_0 (by
    have k0 := key 8 0 none none (by omega)
    rw [Nat.zero_min] at k0
    exact k0))
theorem w_part (h : wB g c fr nr rl ru nf fo en tx tn kp kc wa ro t I L) : zC G (n + 300) 292 [.ref 40] I L (zR1 q) (wPo G (n + 300) 122 [.ref 0] t) := by
  obtain ⟨hM, hC⟩ := h
  have hR := hC.2.2.2.2.2.1
  have hW := hC.2.2.2.2.2.2.2.2.2.1
  have n8 := hR.1
  have lt := sFB_lt (sFt rl wa) nr
  have p8 : 2 ^ nr ≤ 2 ^ 8 := Nat.pow_le_pow_right (by decide) n8
  have lt8 : sFB (sFt rl wa) nr < 256 := Nat.lt_of_lt_of_le lt p8
  have hle := sPt_le rl (sFt rl wa) nr
  refine zin0 rfl rfl rfl (b292_0 (k_fits hR hW ?_))
  have at70 : ∀ v5 v6 v7, zQ G 292 (n + 299) (wPo G (n + 300) 122 [.ref 0] t) 70 [some (.ref 40), some (.int (nI (sFB (sFt rl wa) nr))), some (.int (nI (sPt rl (sFt rl wa) nr 30).1)), some (.int (nI ((sPt rl (sFt rl wa) nr 30).2 / 10))), some (.int (nI ((sPt rl (sFt rl wa) nr 30).2 % 10))), v5, v6, v7] [] I L (zR1 q) := fun v5 v6 v7 => by
    have h30 := hle 30
    refine b292_70 (pk_le (sPt rl (sFt rl wa) nr 30).1 0 (fun z => b292_100 ?_) (fun z => ?_) rfl rfl (by omega) (by omega))
    · have b0 : sFB (sFt rl wa) nr = 0 := by
        by_cases w : sFB (sFt rl wa) nr = 0
        · exact w
        · have := sPt_1 (rl := rl) w
          omega
      rw [show (sPt rl (sFt rl wa) nr 30).1 = 0 by omega]
      exact ⟨⟨_, rfl⟩, q, rfl, c_part hM.2.2.2.1 hM.2.2.2.2.2.2.2.2.1 (fun _ => ⟨rfl, ⟨q, rfl⟩, wE_34 hM hC (by omega)⟩) (fun w => absurd b0 w)⟩
    · have b1 : sFB (sFt rl wa) nr ≠ 0 := fun w => by
        have := sPt_0 (rl := rl) w 30
        omega
      have fin : ∀ (J : zI) (K : zL), kRow [(nI ((sPt rl (sFt rl wa) nr 30).2 / 10)).toInt64, (nI ((sPt rl (sFt rl wa) nr 30).2 % 10)).toInt64] J K → (∀ o, o ≠ 96 → J o = I o) → (∀ o, o ≠ 97 → K o = L o) → wPo G (n + 300) 122 [.ref 0] t (some (.int (nI (sPt rl (sFt rl wa) nr 30).1))) J K (zR1 q) := fun J K r2 jo ko => by
        have C2 := wC_ro hC jo r2
        have M2 := wM_lo hM (I' := J) (L' := K) (fun o z => jo o (by omega)) (fun o z => ko o (by omega))
        exact ⟨⟨_, rfl⟩, q, rfl, c_part M2.2.2.2.1 M2.2.2.2.2.2.2.2.2.1 (fun w => absurd w b1) (fun _ I3 L3 m3 _ f3 l3 => ⟨rfl, ⟨q, rfl⟩, wE_T M2 C2 (by omega) f3 l3 m3⟩)⟩
      exact k_begin (fun r0 => k_add r0 (by show 0 < 32; decide) (fun r1 => k_add r1 (by show 1 < 32; decide) (fun r2 => b292_100 (fin _ _ r2 (fun o z => by rw [zup_ne z, zup_ne z, zup_ne z]) (fun o z => by rw [zup_ne z, zup_ne z])))))
  have key : ∀ (j e : Nat) (v6 v7 : Option Value), e + j = 3 → zQ G 292 (n + 299) (wPo G (n + 300) 122 [.ref 0] t) 15 [some (.ref 40), some (.int (nI (sFB (sFt rl wa) nr))), some (.int (nI (sPt rl (sFt rl wa) nr (10 * e)).1)), some (.int (nI ((sPt rl (sFt rl wa) nr (10 * e)).2 / 10))), some (.int (nI ((sPt rl (sFt rl wa) nr (10 * e)).2 % 10))), some (.int (nI e)), v6, v7] [] I L (zR1 q) := by
    intro j
    induction j with
    | zero =>
      intro e v6 v7 he
      have e3 : e = 3 := by omega
      subst e3
      exact b292_15 (pk_lt 2 3 (fun _ => at70 _ _ _) (fun z => absurd z (by omega)) rfl rfl (by omega) (by omega))
    | succ j ih =>
      intro e v6 v7 he
      have he3 : e < 3 := by omega
      have inner : ∀ (k i : Nat) (v7 : Option Value), i + k = 10 → zQ G 292 (n + 299) (wPo G (n + 300) 122 [.ref 0] t) 24 [some (.ref 40), some (.int (nI (sFB (sFt rl wa) nr))), some (.int (nI (sPt rl (sFt rl wa) nr (10 * e + i)).1)), some (.int (nI ((sPt rl (sFt rl wa) nr (10 * e + i)).2 / 10))), some (.int (nI ((sPt rl (sFt rl wa) nr (10 * e + i)).2 % 10))), some (.int (nI e)), some (.int (nI i)), v7] [] I L (zR1 q) := by
        intro k
        induction k with
        | zero =>
          intro i v7 hi
          have e10 : i = 10 := by omega
          subst e10
          have qq := ih (e + 1) (some (.int (nI 10))) v7 (by omega)
          rw [← nI_1, show 10 * (e + 1) = 10 * e + 10 by omega] at qq
          exact b292_24 (pk_lt 9 10 (fun _ => b292_64 qq) (fun z => absurd z (by omega)) rfl rfl (by omega) (by omega))
        | succ k ihk =>
          intro i v7 hi
          have hi10 : i < 10 := by omega
          have hk := hle (10 * e + i)
          have d1 : (10 * e + i) / 10 = e := by omega
          have d2 : (10 * e + i) % 10 = i := by omega
          have en : sPn rl (sFt rl wa) nr (10 * e + i) = sCB (fun r => sFt rl wa r && sNwk rl (sFt rl wa) r e i r) nr := by
            unfold sPn
            rw [d1, d2]
          have bn := sCB_le (fun r => sFt rl wa r && sNwk rl (sFt rl wa) r e i r) nr
          have qq := fun v7 => ihk (i + 1) v7 (by omega)
          rw [← nI_1, show 10 * e + (i + 1) = 10 * e + i + 1 from rfl, sPt, en] at qq
          refine b292_24 (pk_lt 9 i (fun z => absurd z (by omega)) (fun _ => ?_) rfl rfl (by omega) (by omega))
          refine k_countUnlike (ft := sFt rl wa) (by omega) (fun o ho => ?_) hR he3 (by omega) ?_
          · exact sFB_tb (sFt rl wa) nr o
          · refine pk_le (sCB (fun r => sFt rl wa r && sNwk rl (sFt rl wa) r e i r) nr) (sPt rl (sFt rl wa) nr (10 * e + i)).1 (fun z => b292_58 ?_) (fun z => b292_58 ?_) rfl rfl (by omega) (by omega)
            · rw [if_neg (by omega)] at qq
              exact qq _
            · rw [if_pos z] at qq
              dsimp only at qq
              rw [d1, d2] at qq
              exact qq _
      have q0 := inner 10 0 v7 (by omega)
      exact b292_15 (pk_lt 2 e (fun z => absurd z (by omega)) (fun _ => q0) rfl rfl (by omega) (by omega))
  have k0 := key 3 0 none none (by omega)
  rw [show sPt rl (sFt rl wa) nr (10 * 0) = (0, 0) from rfl] at k0
  exact k0
end
