-- ===== calls on both: rule, foe =====
theorem tRr_no {O A T o k : Nat} (h : ¬ ((o = 41 ∧ k = 2) ∨ o = O ∨ o = A ∨ o = T)) : tRr O A T o k = false := by
  cases e : tRr O A T o k with
  | false => rfl
  | true =>
    unfold tRr at e
    simp only [Bool.or_eq_true, Bool.and_eq_true, Nat.beq_eq] at e
    omega
theorem tRu_no {m o k : Nat} (h : ¬ (o = 7 ∨ o = 8 ∨ o = 9 ∨ (o = 0 ∧ (k = 18 ∨ k = 31 ∨ k = 34 ∨ k = 39 ∨ k = 40 ∨ k = 41)))) : tRu m o k = false := by
  cases e : tRu m o k with
  | false => rfl
  | true =>
    unfold tRu tRl at e
    simp only [Bool.or_eq_true, Bool.and_eq_true, Nat.beq_eq] at e
    omega
theorem tFu_no {f o k : Nat} (h : ¬ (o = 10 ∨ o = 11 ∨ o = 12 ∨ o = 14 ∨ (o = 0 ∧ (k = 23 ∨ k = 31 ∨ k = 34 ∨ k = 39 ∨ k = 40 ∨ k = 41)))) : tFu f o k = false := by
  cases e : tFu f o k with
  | false => rfl
  | true =>
    unfold tFu tFs at e
    simp only [Bool.or_eq_true, Bool.and_eq_true, Nat.beq_eq] at e
    omega
theorem up412 {I : zI} {v : Int32} : ∀ o k, ¬ (o = 41 ∧ k = 2) → zup I 41 2 v o k = I o k := fun o k z => by
  unfold zup
  by_cases d : o = 41
  · rw [if_pos d, if_neg (fun w => z ⟨d, w⟩)]
  · rw [if_neg d]
section
variable {G : zG} {n : Nat} {I : zI} {L : zL} {R : zR} {q : zq} {post : zPo} {g : zg} {c : sC} {fr : Nat → Nat} {nr : Nat} {rl : zrl} {ru : Option Nat} {nf : Nat} {fo : Nat → zfo} {en : Nat → Int32} {tx : Nat → Nat} {tn : Nat} {kp : Nat → Bool} {kc : Nat → sC} {wa : List zwt} {ro : List Int64} {t : Nat}
theorem w_rule (h : wB g c fr nr rl ru nf fo en tx tn kp kc wa ro t I L) : zC G (n + 300) 259 [.ref 40] I L (zR1 q) (wPo G (n + 300) 54 [.ref 0] t) := by
  obtain ⟨hM, hC⟩ := h
  have hR := hC.2.2.2.2.2.1
  have n8 := hR.1
  -- the text cleared, the reference still to come
  have clear : ∀ (I1 I2 : zI), kTx tx 0 0 I2 → zFr tXt I1 I2 → (∀ o k, ¬ ((o = 41 ∧ k = 2) ∨ (107 + 3 * nr ≤ o ∧ o ≤ 130)) → I1 o k = I o k) → (nr = 8 → ∀ k, I1 107 k = I 107 k) → wC g c fr nr rl ru nf fo en tx 0 kp kc wa ro t I2 L ∧ wM g c fr nr rl ru nf fo en tx tn kp kc wa ro I2 L := by
    intro I1 I2 t2 f2 ho1 _
    have ho2 : ∀ o, ¬ (o = 41 ∨ o = 42) → I2 o = I1 o := fun o z => funext fun k => f2 o k (tXt_no z)
    have ho : ∀ o, ¬ (o = 41 ∨ o = 42 ∨ (107 + 3 * nr ≤ o ∧ o ≤ 130)) → I2 o = I o := fun o z => funext fun k => (by rw [ho2 o (by omega)]; exact ho1 o k (by omega))
    refine ⟨⟨kZ_of hC.1 (fun o z1 z2 => ho o (by omega)), ⟨kD_of hC.2.1.1 (ho 43 (by omega)), t2⟩, kC_of hC.2.2.1 (ho 63 (by omega)) (ho 64 (by omega)) (fun k _ => by rw [ho 62 (by omega)]), kKp_of hC.2.2.2.1 (fun o z1 z2 => ho o (by omega)), kFr_of hC.2.2.2.2.1 (ho 69 (by omega)), ⟨n8, by rw [ho 40 (by omega)]; exact hR.2.1, by rw [ho 40 (by omega)]; exact hR.2.2.1, hR.2.2.2.1, fun r hr => ⟨kRu_of (hR.2.2.2.2 r hr).1 (ho _ (by omega)) (ho _ (by omega)) (ho _ (by omega)), (hR.2.2.2.2 r hr).2⟩⟩, kFs_of hC.2.2.2.2.2.2.1 (by rw [ho 40 (by omega)]) (fun o z => ho o (by omega)), (fun k hk => by rw [ho 77 (by omega), ho 84 (by omega)]; exact hC.2.2.2.2.2.2.2.1 k hk), kEn_of hC.2.2.2.2.2.2.2.2.1 (ho 94 (by omega)), kWa_of hC.2.2.2.2.2.2.2.2.2.1 (by rw [ho 40 (by omega)]) (ho 95 (by omega)), kRow_of hC.2.2.2.2.2.2.2.2.2.2.1 (ho 96 (by omega)) rfl, kMk_of hC.2.2.2.2.2.2.2.2.2.2.2 (ho 89 (by omega)) (ho 91 (by omega)) (ho 92 (by omega))⟩, wM_lo hM (fun o z => ho o (by omega)) (fun _ _ => rfl)⟩
  have endM : ∀ {nr' : Nat} {rl' : zrl} (I2 I3 : zI), wM g c fr nr rl ru nf fo en tx tn kp kc wa ro I2 L → mRl nr' rl' ru I3 → I3 0 31 = 0 → (∀ o k, ¬ (o = 7 ∨ o = 8 ∨ o = 9 ∨ (o = 0 ∧ (k = 18 ∨ k = 31 ∨ k = 34 ∨ k = 39 ∨ k = 40 ∨ k = 41))) → I3 o k = I2 o k) → wM g c fr nr' rl' ru nf fo en tx 0 kp kc wa ro I3 L := fun I2 I3 M2 m3 h31 hf => ⟨⟨⟨M2.1.1.1, fun k z => (hf 0 k (by omega)).trans (M2.1.1.2 k z)⟩, mPos_of M2.1.2 (funext fun k => hf 1 k (by omega)) (funext fun k => hf 2 k (by omega)) (funext fun k => hf 3 k (by omega))⟩, ⟨mC_of M2.2.1.1 (funext fun k => hf 5 k (by omega)) (funext fun k => hf 4 k (by omega)) (hf 0 14 (by omega)) (hf 0 15 (by omega)) (hf 0 16 (by omega)), M2.2.1.2⟩, (fun s hs => ⟨(hf 6 s (by omega)).trans (M2.2.2.1 s hs).1, (M2.2.2.1 s hs).2⟩), m3, mFo_fr M2.2.2.2.2.1 (hf 0 23 (by omega)) (funext fun k => hf 10 k (by omega)) (funext fun k => hf 11 k (by omega)) (funext fun k => hf 12 k (by omega)) (funext fun k => hf 14 k (by omega)) rfl, (fun k hk => (hf 15 k (by omega)).trans (M2.2.2.2.2.2.1 k hk)), ⟨h31, by omega, fun j hj => absurd hj (Nat.not_lt_zero _)⟩, ⟨fun i hi => (hf 29 i (by omega)).trans (M2.2.2.2.2.2.2.2.1.1 i hi), fun i hi z => ⟨mK_of (M2.2.2.2.2.2.2.2.1.2 i hi z).1 (funext fun k => hf 30 k (by omega)) (funext fun k => hf 31 k (by omega)) (funext fun k => hf 32 k (by omega)), (M2.2.2.2.2.2.2.2.1.2 i hi z).2⟩⟩, mWa_of M2.2.2.2.2.2.2.2.2.1 (hf 0 66 (by omega)) (funext fun k => hf 36 k (by omega)) (funext fun k => hf 37 k (by omega)) (funext fun k => hf 38 k (by omega)) (funext fun k => hf 39 k (by omega)), ⟨mRow_fr M2.2.2.2.2.2.2.2.2.2.1.1 (hf 0 33 (by omega)) rfl, M2.2.2.2.2.2.2.2.2.2.1.2⟩, (hf 0 35 (by omega)).trans M2.2.2.2.2.2.2.2.2.2.2⟩
  refine zin0 rfl rfl rfl (b259_0 ?_)
  show (I 40 9 < 0 → _) ∧ (¬ I 40 9 < 0 → (I 40 9 < _ → _) ∧ (¬ I 40 9 < _ → _))
  rw [hR.2.1]
  refine And.intro (fun z => absurd z (nI_pos (by omega))) (fun _ => pk_lt nr 8 (fun hn8 => b259_29x ?_) (fun hn8 => b259_19 ?_) rfl rfl (by omega) (by omega))
  · -- a rule read
    refine k_rewind hC.2.1.2 (fun t0 => ?_)
    show zck ("BoxesWithBeads$Rule" == zcn 8 && Nat.blt 8 zncl) (vp_in (I 40 9) 8 ∧ _)
    refine zck_t zs_rule (And.intro (by rw [hR.2.1]; exact vp_in_nI hn8 (by decide)) ?_)
    have e : zR1 q 70 (zup I 41 2 0 40 9).toNatClampNeg = some (107 + 3 * nr) := by
      rw [up412 40 9 (by omega), hR.2.1, nI_clamp (by omega)]
      exact zR_rule nr hn8
    rw [e]
    have rd := fun post' a b => k_readRule (G := G) (n := n + 294) (I := zup I 41 2 0) (L := L) (q := q) (post := post') (kRo_r hn8) t0 a b
    have at71 : ∀ (b : Bool) (v : Int32) (a : Nat) (I1 : zI), kTx tx tn a I1 → (∀ o k, ¬ ((o = 41 ∧ k = 2) ∨ (107 + 3 * nr ≤ o ∧ o ≤ 130)) → I1 o k = I o k) → (∀ I2 : zI, kTx tx 0 0 I2 → zFr tXt I1 I2 → (b = false → wPo G (n + 300) 54 [.ref 0] t (some (.int v)) I2 L (zR1 q)) ∧ (b = true → wPo G (n + 300) 54 [.ref 0] t (some (.int v)) (zup I2 40 9 (I2 40 9 + 1)) L (zR1 q))) → ∀ v2, zQ G 259 (n + 299) (wPo G (n + 300) 54 [.ref 0] t) 71 [some (.ref 40), some (.int (zbo b)), v2] [.int v] I1 L (zR1 q) := fun b v a I1 t1 ho1 fin v2 => b259_71 (k_clear t1 (fun I2 t2 f2 => zbo_eq (fun d => b259_93 ((fin I2 t2 f2).1 d)) (fun d => And.intro rfl (b259_93 ((fin I2 t2 f2).2 d)))))
    have yes : ∀ (s : zrS) (p : Nat), tRule tx tn 41 rs0 0 = (some s, p) → rsOk s → ∀ I1 : zI, kRu (107 + 3 * nr) (108 + 3 * nr) (109 + 3 * nr) s I1 → kTx tx tn p I1 → zFr (tRr (107 + 3 * nr) (108 + 3 * nr) (109 + 3 * nr)) (zup I 41 2 0) I1 → ∀ v2, I1 40 9 = nI nr ∧ zQ G 259 (n + 299) (wPo G (n + 300) 54 [.ref 0] t) 71 [some (.ref 40), some (.int (zbo true)), v2] [.int (nI nr)] I1 L (zR1 q) := by
      intro s p es sok I1 ru1 t1 f1 v2
      have ho1 : ∀ o k, ¬ ((o = 41 ∧ k = 2) ∨ (107 + 3 * nr ≤ o ∧ o ≤ 130)) → I1 o k = I o k := fun o k z => (f1 o k (tRr_no (by omega))).trans (up412 o k (by omega))
      refine ⟨(ho1 40 9 (by omega)).trans hR.2.1, at71 true _ p I1 t1 ho1 (fun I2 t2 f2 => ⟨fun d => absurd d (by decide), fun _ => ?_⟩) v2⟩
      obtain ⟨C2, M2⟩ := clear I1 I2 t2 f2 ho1 (fun z => absurd z (by omega))
      have ho2 : ∀ o, ¬ (o = 41 ∨ o = 42) → I2 o = I1 o := fun o z => funext fun k => f2 o k (tXt_no z)
      have e9 := C2.2.2.2.2.2.1.2.1
      rw [e9, nI_1]
      obtain ⟨I3, hI3⟩ : ∃ I3 : zI, I3 = zup I2 40 9 (nI (nr + 1)) := ⟨_, rfl⟩
      rw [← hI3]
      have ho3 : ∀ o, ¬ (o = 40) → I3 o = I2 o := fun o z => by rw [hI3, zup_ne z]
      have ho4 : ∀ k, k ≠ 9 → I3 40 k = I2 40 k := fun k z => by rw [hI3, zup_k z]
      have hR2 := C2.2.2.2.2.2.1
      have C3 : wC g c fr ((nr + 1)) ((sRlA rl nr s)) ru nf fo en tx 0 kp kc wa ro t I3 L := ⟨kZ_of C2.1 (fun o z1 z2 => ho3 o (by omega)), ⟨kD_of C2.2.1.1 (ho3 43 (by omega)), kTx_of C2.2.1.2 (ho3 41 (by omega)) (ho3 42 (by omega))⟩, kC_of C2.2.2.1 (ho3 63 (by omega)) (ho3 64 (by omega)) (fun k _ => by rw [ho3 62 (by omega)]), kKp_of C2.2.2.2.1 (fun o z1 z2 => ho3 o (by omega)), kFr_of C2.2.2.2.2.1 (ho3 69 (by omega)), ⟨by omega, by rw [hI3, zup_self], (ho4 10 (by decide)).trans hR2.2.2.1, fun r hr => by have := hR2.2.2.2.1 r hr; omega, fun r hr => by
        by_cases d : r = nr
        · subst d
          unfold sRlA
          dsimp only
          rw [fup_s, fup_s, fup_s]
          exact ⟨kRu_of ru1 (by rw [ho3 _ (by omega), ho2 _ (by omega)]) (by rw [ho3 _ (by omega), ho2 _ (by omega)]) (by rw [ho3 _ (by omega), ho2 _ (by omega)]), sok⟩
        · unfold sRlA
          dsimp only
          rw [fup_n d, fup_n d, fup_n d]
          have := hR2.2.2.2.2 r (by omega)
          exact ⟨kRu_of this.1 (ho3 _ (by omega)) (ho3 _ (by omega)) (ho3 _ (by omega)), this.2⟩⟩, kFs_of C2.2.2.2.2.2.2.1 (ho4 12 (by decide)) (fun o z => ho3 o (by omega)), (fun k hk => by rw [ho3 77 (by omega), ho3 84 (by omega)]; exact C2.2.2.2.2.2.2.2.1 k hk), kEn_of C2.2.2.2.2.2.2.2.2.1 (ho3 94 (by omega)), kWa_of C2.2.2.2.2.2.2.2.2.2.1 (ho4 18 (by decide)) (ho3 95 (by omega)), kRow_of C2.2.2.2.2.2.2.2.2.2.2.1 (ho3 96 (by omega)) rfl, kMk_of C2.2.2.2.2.2.2.2.2.2.2.2 (ho3 89 (by omega)) (ho3 91 (by omega)) (ho3 92 (by omega))⟩
      have M3 := wM_lo M2 (I' := I3) (L' := L) (fun o z => ho3 o (by omega)) (fun _ _ => rfl)
      refine ⟨⟨_, rfl⟩, q, rfl, c_rule M3.2.2.2.1 M3.2.2.2.2.2.2.1 (fun z => absurd z (by omega)) (fun _ s2 p2 es2 _ I4 m4 h31 _ f4 => ?_) (fun _ e2 es2 => by rw [es] at es2; cases es2)⟩
      rw [es] at es2
      cases es2
      have hf : ∀ o k, ¬ (o = 7 ∨ o = 8 ∨ o = 9 ∨ (o = 0 ∧ (k = 18 ∨ k = 31 ∨ k = 34 ∨ k = 39 ∨ k = 40 ∨ k = 41))) → I4 o k = I3 o k := fun o k z => f4 o k (tRu_no z)
      exact ⟨rfl, ⟨q, rfl⟩, ⟨g, c, fr, _, _, ru, nf, fo, en, tx, _, kp, kc, wa, ro, t, by omega, endM I3 I4 M3 m4 h31 hf, wC_hi C3 (fun o z => funext fun k => hf o k (by omega)) rfl⟩⟩
    have nope : ∀ e : Nat, tRule tx tn 41 rs0 0 = (none, e) → ∀ I1 : zI, kTx tx tn e I1 → zFr (tRr (107 + 3 * nr) (108 + 3 * nr) (109 + 3 * nr)) (zup I 41 2 0) I1 → ∀ v2, zQ G 259 (n + 299) (wPo G (n + 300) 54 [.ref 0] t) 64 [some (.ref 40), some (.int (zbo false)), v2] [] I1 L (zR1 q) := by
      intro e2 es I1 t1 f1 v2
      have ho1 : ∀ o k, ¬ ((o = 41 ∧ k = 2) ∨ (107 + 3 * nr ≤ o ∧ o ≤ 130)) → I1 o k = I o k := fun o k z => (f1 o k (tRr_no (by omega))).trans (up412 o k (by omega))
      refine b259_64 (k_fault t1 (at71 false _ e2 I1 t1 ho1 (fun I2 t2 f2 => ⟨fun _ => ?_, fun d => absurd d (by decide)⟩) v2))
      obtain ⟨C2, M2⟩ := clear I1 I2 t2 f2 ho1 (fun z => absurd z (by omega))
      refine ⟨⟨_, rfl⟩, q, rfl, c_rule M2.2.2.2.1 M2.2.2.2.2.2.2.1 (fun z => absurd z (by omega)) (fun _ s2 p2 es2 => by rw [es] at es2; cases es2) (fun _ e3 es2 I4 m4 h31 _ f4 => ?_)⟩
      rw [es] at es2
      cases es2
      have hf : ∀ o k, ¬ (o = 7 ∨ o = 8 ∨ o = 9 ∨ (o = 0 ∧ (k = 18 ∨ k = 31 ∨ k = 34 ∨ k = 39 ∨ k = 40 ∨ k = 41))) → I4 o k = I2 o k := fun o k z => f4 o k (tRu_no z)
      exact ⟨rfl, ⟨q, rfl⟩, ⟨g, c, fr, _, _, ru, nf, fo, en, tx, _, kp, kc, wa, ro, t, by omega, endM I2 I4 M2 m4 h31 hf, wC_hi C2 (fun o z => funext fun k => hf o k (by omega)) rfl⟩⟩
    have dec1 : ∀ {I1 : zI} {K1 : zKo} {lv : zLv} {A : Prop}, I1 40 9 = nI nr → K1 71 lv [.int (nI nr)] zNN I1 L (zR1 q) → K1 71 lv [.int (I1 40 9)] zNN I1 L (zR1 q) := fun e k => by rw [e]; exact k
    have c8 : nr = 0 ∨ nr = 1 ∨ nr = 2 ∨ nr = 3 ∨ nr = 4 ∨ nr = 5 ∨ nr = 6 ∨ nr = 7 := by omega
    rcases c8 with rfl | rfl | rfl | rfl | rfl | rfl | rfl | rfl <;> exact rd _ (fun s p es sok I1 ru1 t1 f1 => And.intro (fun z => absurd z (by decide)) (fun _ => by
      have y := yes s p es sok I1 ru1 t1 f1 none
      have y2 := y.2
      rw [← y.1] at y2
      exact y2)) (fun e es I1 t1 f1 => And.intro (fun _ => nope e es I1 t1 f1 none) (fun z => absurd rfl z))
  · -- no room
    have e8 : nr = 8 := by omega
    refine k_clear hC.2.1.2 (fun I2 t2 f2 => ?_)
    obtain ⟨C2, M2⟩ := clear I I2 t2 f2 (fun _ _ _ => rfl) (fun _ _ => rfl)
    refine ⟨⟨_, rfl⟩, q, rfl, c_rule M2.2.2.2.1 M2.2.2.2.2.2.2.1 (fun _ I4 m4 h31 _ f4 => ?_) (fun z => absurd z (by omega)) (fun z => absurd z (by omega))⟩
    have hf : ∀ o k, ¬ (o = 7 ∨ o = 8 ∨ o = 9 ∨ (o = 0 ∧ (k = 18 ∨ k = 31 ∨ k = 34 ∨ k = 39 ∨ k = 40 ∨ k = 41))) → I4 o k = I2 o k := fun o k z => f4 o k (tRu_no z)
    exact ⟨rfl, ⟨q, rfl⟩, ⟨g, c, fr, _, _, ru, nf, fo, en, tx, _, kp, kc, wa, ro, t, by omega, endM I2 I4 M2 m4 h31 hf, wC_hi C2 (fun o z => funext fun k => hf o k (by omega)) rfl⟩⟩
theorem w_foe (h : wB g c fr nr rl ru nf fo en tx tn kp kc wa ro t I L) : zC G (n + 300) 260 [.ref 40] I L (zR1 q) (wPo G (n + 300) 56 [.ref 0] t) := by
  obtain ⟨hM, hC⟩ := h
  have hO := hC.2.2.2.2.2.2.1
  have n8 := hO.1
  have clear : ∀ (I1 I2 : zI), kTx tx 0 0 I2 → zFr tXt I1 I2 → (∀ o k, ¬ ((o = 41 ∧ k = 2) ∨ 131 + 5 * nf ≤ o) → I1 o k = I o k) → wC g c fr nr rl ru nf fo en tx 0 kp kc wa ro t I2 L ∧ wM g c fr nr rl ru nf fo en tx tn kp kc wa ro I2 L := by
    intro I1 I2 t2 f2 ho1
    have ho2 : ∀ o, ¬ (o = 41 ∨ o = 42) → I2 o = I1 o := fun o z => funext fun k => f2 o k (tXt_no z)
    have ho : ∀ o, ¬ (o = 41 ∨ o = 42 ∨ 131 + 5 * nf ≤ o) → I2 o = I o := fun o z => funext fun k => (by rw [ho2 o (by omega)]; exact ho1 o k (by omega))
    refine ⟨⟨kZ_of hC.1 (fun o z1 z2 => ho o (by omega)), ⟨kD_of hC.2.1.1 (ho 43 (by omega)), t2⟩, kC_of hC.2.2.1 (ho 63 (by omega)) (ho 64 (by omega)) (fun k _ => by rw [ho 62 (by omega)]), kKp_of hC.2.2.2.1 (fun o z1 z2 => ho o (by omega)), kFr_of hC.2.2.2.2.1 (ho 69 (by omega)), kRs_of hC.2.2.2.2.2.1 (by rw [ho 40 (by omega)]) (by rw [ho 40 (by omega)]) (fun o z1 z2 => ho o (by omega)), ⟨n8, by rw [ho 40 (by omega)]; exact hO.2.1, fun f hf => ⟨(hO.2.2 f hf).1, kFo_fr (hO.2.2 f hf).2 (ho _ (by omega)) (ho _ (by omega)) (ho _ (by omega)) (ho _ (by omega)) (ho _ (by omega))⟩⟩, (fun k hk => by rw [ho 77 (by omega), ho 84 (by omega)]; exact hC.2.2.2.2.2.2.2.1 k hk), kEn_of hC.2.2.2.2.2.2.2.2.1 (ho 94 (by omega)), kWa_of hC.2.2.2.2.2.2.2.2.2.1 (by rw [ho 40 (by omega)]) (ho 95 (by omega)), kRow_of hC.2.2.2.2.2.2.2.2.2.2.1 (ho 96 (by omega)) rfl, kMk_of hC.2.2.2.2.2.2.2.2.2.2.2 (ho 89 (by omega)) (ho 91 (by omega)) (ho 92 (by omega))⟩, wM_lo hM (fun o z => ho o (by omega)) (fun _ _ => rfl)⟩
  have endM : ∀ {nf' : Nat} {fo' : Nat → zfo} (I2 I3 : zI) (L3 : zL), wM g c fr nr rl ru nf fo en tx tn kp kc wa ro I2 L → mFo nf' fo' I3 L3 → I3 0 31 = 0 → (∀ o k, ¬ (o = 10 ∨ o = 11 ∨ o = 12 ∨ o = 14 ∨ (o = 0 ∧ (k = 23 ∨ k = 31 ∨ k = 34 ∨ k = 39 ∨ k = 40 ∨ k = 41))) → I3 o k = I2 o k) → L3 17 = L 17 → wM g c fr nr rl ru nf' fo' en tx 0 kp kc wa ro I3 L3 := fun I2 I3 L3 M2 m3 h31 hf l3 => ⟨⟨⟨M2.1.1.1, fun k z => (hf 0 k (by omega)).trans (M2.1.1.2 k z)⟩, mPos_of M2.1.2 (funext fun k => hf 1 k (by omega)) (funext fun k => hf 2 k (by omega)) (funext fun k => hf 3 k (by omega))⟩, ⟨mC_of M2.2.1.1 (funext fun k => hf 5 k (by omega)) (funext fun k => hf 4 k (by omega)) (hf 0 14 (by omega)) (hf 0 15 (by omega)) (hf 0 16 (by omega)), M2.2.1.2⟩, (fun s hs => ⟨(hf 6 s (by omega)).trans (M2.2.2.1 s hs).1, (M2.2.2.1 s hs).2⟩), mRl_of M2.2.2.2.1 (hf 0 18 (by omega)) (hf 0 22 (by omega)) (funext fun k => hf 7 k (by omega)) (funext fun k => hf 8 k (by omega)) (funext fun k => hf 9 k (by omega)), m3, (fun k hk => (hf 15 k (by omega)).trans (M2.2.2.2.2.2.1 k hk)), ⟨h31, by omega, fun j hj => absurd hj (Nat.not_lt_zero _)⟩, ⟨fun i hi => (hf 29 i (by omega)).trans (M2.2.2.2.2.2.2.2.1.1 i hi), fun i hi z => ⟨mK_of (M2.2.2.2.2.2.2.2.1.2 i hi z).1 (funext fun k => hf 30 k (by omega)) (funext fun k => hf 31 k (by omega)) (funext fun k => hf 32 k (by omega)), (M2.2.2.2.2.2.2.2.1.2 i hi z).2⟩⟩, mWa_of M2.2.2.2.2.2.2.2.2.1 (hf 0 66 (by omega)) (funext fun k => hf 36 k (by omega)) (funext fun k => hf 37 k (by omega)) (funext fun k => hf 38 k (by omega)) (funext fun k => hf 39 k (by omega)), ⟨mRow_fr M2.2.2.2.2.2.2.2.2.2.1.1 (hf 0 33 (by omega)) l3, M2.2.2.2.2.2.2.2.2.2.1.2⟩, (hf 0 35 (by omega)).trans M2.2.2.2.2.2.2.2.2.2.2⟩
  refine zin0 rfl rfl rfl (b260_0 ?_)
  show (I 40 12 < 0 → _) ∧ (¬ I 40 12 < 0 → (I 40 12 < _ → _) ∧ (¬ I 40 12 < _ → _))
  rw [hO.2.1]
  refine And.intro (fun z => absurd z (nI_pos (by omega))) (fun _ => pk_lt nf 8 (fun hn8 => b260_29x ?_) (fun hn8 => b260_19 ?_) rfl rfl (by omega) (by omega))
  · -- a foe read
    refine k_rewind hC.2.1.2 (fun t0 => ?_)
    show zck ("BoxesWithBeads$Foe" == zcn 3 && Nat.blt 3 zncl) (vp_in (I 40 12) 8 ∧ _)
    refine zck_t zs_foe (And.intro (by rw [hO.2.1]; exact vp_in_nI hn8 (by decide)) ?_)
    have e : zR1 q 71 (zup I 41 2 0 40 12).toNatClampNeg = some (131 + 5 * nf) := by
      rw [up412 40 12 (by omega), hO.2.1, nI_clamp (by omega)]
      exact zR_foe nf hn8
    rw [e]
    have rd := fun post' a b => k_readFoe (G := G) (n := n + 294) (I := zup I 41 2 0) (L := L) (q := q) (post := post') (kFb_f hn8) t0 a b
    have at71 : ∀ (b : Bool) (v : Int32) (a : Nat) (I1 : zI), kTx tx tn a I1 → (∀ I2 : zI, kTx tx 0 0 I2 → zFr tXt I1 I2 → (b = false → wPo G (n + 300) 56 [.ref 0] t (some (.int v)) I2 L (zR1 q)) ∧ (b = true → wPo G (n + 300) 56 [.ref 0] t (some (.int v)) (zup I2 40 12 (I2 40 12 + 1)) L (zR1 q))) → ∀ v2, zQ G 260 (n + 299) (wPo G (n + 300) 56 [.ref 0] t) 71 [some (.ref 40), some (.int (zbo b)), v2] [.int v] I1 L (zR1 q) := fun b v a I1 t1 fin v2 => b260_71 (k_clear t1 (fun I2 t2 f2 => zbo_eq (fun d => b260_93 ((fin I2 t2 f2).1 d)) (fun d => And.intro rfl (b260_93 ((fin I2 t2 f2).2 d)))))
    have fr1 : ∀ I1 : zI, pFr (pFe (131 + 5 * nf) (132 + 5 * nf) (133 + 5 * nf) (134 + 5 * nf) (135 + 5 * nf)) (zup I 41 2 0) I1 → ∀ o k, ¬ ((o = 41 ∧ k = 2) ∨ 131 + 5 * nf ≤ o) → I1 o k = I o k := fun I1 f1 o k z => (f1 o k (by unfold pFe; omega)).trans (up412 o k (by omega))
    have yes : ∀ (ps : List zpt) (p : Nat), tFoe tx tn 41 [] 0 = (some ps, p) → ∀ I1 : zI, kFo (131 + 5 * nf) (132 + 5 * nf) (133 + 5 * nf) (134 + 5 * nf) (135 + 5 * nf) (sFoF ps) I1 → kTx tx tn p I1 → pFr (pFe (131 + 5 * nf) (132 + 5 * nf) (133 + 5 * nf) (134 + 5 * nf) (135 + 5 * nf)) (zup I 41 2 0) I1 → ∀ v2, I1 40 12 = nI nf ∧ zQ G 260 (n + 299) (wPo G (n + 300) 56 [.ref 0] t) 71 [some (.ref 40), some (.int (zbo true)), v2] [.int (nI nf)] I1 L (zR1 q) := by
      intro ps p es I1 fo1 t1 f1 v2
      have ho1 := fr1 I1 f1
      refine ⟨(ho1 40 12 (by omega)).trans hO.2.1, at71 true _ p I1 t1 (fun I2 t2 f2 => ⟨fun d => absurd d (by decide), fun _ => ?_⟩) v2⟩
      obtain ⟨C2, M2⟩ := clear I1 I2 t2 f2 ho1
      have ho2 : ∀ o, ¬ (o = 41 ∨ o = 42) → I2 o = I1 o := fun o z => funext fun k => f2 o k (tXt_no z)
      have hO2 := C2.2.2.2.2.2.2.1
      rw [hO2.2.1, nI_1]
      obtain ⟨I3, hI3⟩ : ∃ I3 : zI, I3 = zup I2 40 12 (nI (nf + 1)) := ⟨_, rfl⟩
      rw [← hI3]
      have ho3 : ∀ o, ¬ (o = 40) → I3 o = I2 o := fun o z => by rw [hI3, zup_ne z]
      have ho4 : ∀ k, k ≠ 12 → I3 40 k = I2 40 k := fun k z => by rw [hI3, zup_k z]
      have M3 := wM_lo M2 (I' := I3) (L' := L) (fun o z => ho3 o (by omega)) (fun _ _ => rfl)
      refine ⟨⟨_, rfl⟩, q, rfl, c_foe M3.2.2.2.2.1 M3.2.2.2.2.2.2.1 (fun z => absurd z (by omega)) (fun _ ps2 p2 es2 I4 L4 m4 _ h31 _ f4 l4 => ?_) (fun _ e2 es2 => by rw [es] at es2; cases es2)⟩
      rw [es] at es2
      cases es2
      have fok : foOk (sFoF ps) := by
        have := (m4.2.2 nf (by omega)).1
        rw [fup_s] at this
        exact this
      have C3 : wC g c fr nr rl ru ((nf + 1)) ((fup fo nf (sFoF ps))) en tx 0 kp kc wa ro t I3 L := ⟨kZ_of C2.1 (fun o z1 z2 => ho3 o (by omega)), ⟨kD_of C2.2.1.1 (ho3 43 (by omega)), kTx_of C2.2.1.2 (ho3 41 (by omega)) (ho3 42 (by omega))⟩, kC_of C2.2.2.1 (ho3 63 (by omega)) (ho3 64 (by omega)) (fun k _ => by rw [ho3 62 (by omega)]), kKp_of C2.2.2.2.1 (fun o z1 z2 => ho3 o (by omega)), kFr_of C2.2.2.2.2.1 (ho3 69 (by omega)), kRs_of C2.2.2.2.2.2.1 (ho4 9 (by decide)) (ho4 10 (by decide)) (fun o z1 z2 => ho3 o (by omega)), ⟨by omega, by rw [hI3, zup_self], fun f hf => by
        by_cases d : f = nf
        · subst d
          rw [fup_s]
          exact ⟨fok, kFo_fr fo1 (by rw [ho3 _ (by omega), ho2 _ (by omega)]) (by rw [ho3 _ (by omega), ho2 _ (by omega)]) (by rw [ho3 _ (by omega), ho2 _ (by omega)]) (by rw [ho3 _ (by omega), ho2 _ (by omega)]) (by rw [ho3 _ (by omega), ho2 _ (by omega)])⟩
        · rw [fup_n d]
          have := hO2.2.2 f (by omega)
          exact ⟨this.1, kFo_fr this.2 (ho3 _ (by omega)) (ho3 _ (by omega)) (ho3 _ (by omega)) (ho3 _ (by omega)) (ho3 _ (by omega))⟩⟩, (fun k hk => by rw [ho3 77 (by omega), ho3 84 (by omega)]; exact C2.2.2.2.2.2.2.2.1 k hk), kEn_of C2.2.2.2.2.2.2.2.2.1 (ho3 94 (by omega)), kWa_of C2.2.2.2.2.2.2.2.2.2.1 (ho4 18 (by decide)) (ho3 95 (by omega)), kRow_of C2.2.2.2.2.2.2.2.2.2.2.1 (ho3 96 (by omega)) rfl, kMk_of C2.2.2.2.2.2.2.2.2.2.2.2 (ho3 89 (by omega)) (ho3 91 (by omega)) (ho3 92 (by omega))⟩
      have hf : ∀ o k, ¬ (o = 10 ∨ o = 11 ∨ o = 12 ∨ o = 14 ∨ (o = 0 ∧ (k = 23 ∨ k = 31 ∨ k = 34 ∨ k = 39 ∨ k = 40 ∨ k = 41))) → I4 o k = I3 o k := fun o k z => f4 o k (tFu_no z)
      exact ⟨rfl, ⟨q, rfl⟩, ⟨g, c, fr, nr, rl, ru, _, _, en, tx, _, kp, kc, wa, ro, t, by omega, endM I3 I4 L4 M3 m4 h31 hf (funext fun j => l4 17 j (by omega)), wC_hi C3 (fun o z => funext fun k => hf o k (by omega)) (funext fun j => l4 97 j (by omega))⟩⟩
    have nope : ∀ e : Nat, tFoe tx tn 41 [] 0 = (none, e) → ∀ I1 : zI, kTx tx tn e I1 → pFr (pFe (131 + 5 * nf) (132 + 5 * nf) (133 + 5 * nf) (134 + 5 * nf) (135 + 5 * nf)) (zup I 41 2 0) I1 → ∀ v2, zQ G 260 (n + 299) (wPo G (n + 300) 56 [.ref 0] t) 64 [some (.ref 40), some (.int (zbo false)), v2] [] I1 L (zR1 q) := by
      intro e2 es I1 t1 f1 v2
      refine b260_64 (k_fault t1 (at71 false _ e2 I1 t1 (fun I2 t2 f2 => ⟨fun _ => ?_, fun d => absurd d (by decide)⟩) v2))
      obtain ⟨C2, M2⟩ := clear I1 I2 t2 f2 (fr1 I1 f1)
      refine ⟨⟨_, rfl⟩, q, rfl, c_foe M2.2.2.2.2.1 M2.2.2.2.2.2.2.1 (fun z => absurd z (by omega)) (fun _ s2 p2 es2 => by rw [es] at es2; cases es2) (fun _ e3 es2 I4 L4 m4 h31 _ f4 l4 => ?_)⟩
      rw [es] at es2
      cases es2
      have hf : ∀ o k, ¬ (o = 10 ∨ o = 11 ∨ o = 12 ∨ o = 14 ∨ (o = 0 ∧ (k = 23 ∨ k = 31 ∨ k = 34 ∨ k = 39 ∨ k = 40 ∨ k = 41))) → I4 o k = I2 o k := fun o k z => f4 o k (tFu_no z)
      exact ⟨rfl, ⟨q, rfl⟩, ⟨g, c, fr, nr, rl, ru, _, _, en, tx, _, kp, kc, wa, ro, t, by omega, endM I2 I4 L4 M2 m4 h31 hf (funext fun j => l4 17 j (by omega)), wC_hi C2 (fun o z => funext fun k => hf o k (by omega)) (funext fun j => l4 97 j (by omega))⟩⟩
    have c8 : nf = 0 ∨ nf = 1 ∨ nf = 2 ∨ nf = 3 ∨ nf = 4 ∨ nf = 5 ∨ nf = 6 ∨ nf = 7 := by omega
    rcases c8 with rfl | rfl | rfl | rfl | rfl | rfl | rfl | rfl <;> exact rd _ (fun ps p es I1 fo1 t1 f1 => And.intro (fun z => absurd z (by decide)) (fun _ => by
      have y := yes ps p es I1 fo1 t1 f1 none
      have y2 := y.2
      rw [← y.1] at y2
      exact y2)) (fun e es I1 t1 f1 => And.intro (fun _ => nope e es I1 t1 f1 none) (fun z => absurd rfl z))
  · -- no room
    refine k_clear hC.2.1.2 (fun I2 t2 f2 => ?_)
    obtain ⟨C2, M2⟩ := clear I I2 t2 f2 (fun _ _ _ => rfl)
    refine ⟨⟨_, rfl⟩, q, rfl, c_foe M2.2.2.2.2.1 M2.2.2.2.2.2.2.1 (fun _ I4 m4 h31 _ f4 => ?_) (fun z => absurd z (by omega)) (fun z => absurd z (by omega))⟩
    have hf : ∀ o k, ¬ (o = 10 ∨ o = 11 ∨ o = 12 ∨ o = 14 ∨ (o = 0 ∧ (k = 23 ∨ k = 31 ∨ k = 34 ∨ k = 39 ∨ k = 40 ∨ k = 41))) → I4 o k = I2 o k := fun o k z => f4 o k (tFu_no z)
    exact ⟨rfl, ⟨q, rfl⟩, ⟨g, c, fr, nr, rl, ru, _, _, en, tx, _, kp, kc, wa, ro, t, by omega, endM I2 I4 L M2 m4 h31 hf rfl, wC_hi C2 (fun o z => funext fun k => hf o k (by omega)) rfl⟩⟩
end
