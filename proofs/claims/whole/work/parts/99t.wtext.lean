-- ===== calls on both: game =====
theorem tGR_no {o k : Nat} (h : ¬ ((o = 41 ∧ k = 2) ∨ o = 43)) : tGR o k = false := by
  cases e : tGR o k with
  | false => rfl
  | true =>
    unfold tGR at e
    simp only [Bool.or_eq_true, Bool.and_eq_true, Nat.beq_eq] at e
    exact absurd e h
theorem tGm_no {o k : Nat} (h : ¬ (o = 1 ∨ o = 2 ∨ o = 3 ∨ o = 4 ∨ o = 5 ∨ o = 29 ∨ (o = 0 ∧ (k < 7 ∨ k = 14 ∨ k = 31 ∨ k = 34 ∨ k = 39 ∨ k = 40 ∨ k = 41)))) : tGm o k = false := by
  cases e : tGm o k with
  | false => rfl
  | true =>
    unfold tGm tB tTx at e
    simp only [Bool.or_eq_true, Bool.and_eq_true, Nat.beq_eq, Nat.blt_eq] at e
    omega
theorem tTx_no {o k : Nat} (h : ¬ (o = 0 ∧ (k = 31 ∨ k = 34 ∨ k = 39 ∨ k = 40 ∨ k = 41))) : tTx o k = false := by
  cases e : tTx o k with
  | false => rfl
  | true =>
    unfold tTx at e
    simp only [Bool.or_eq_true, Bool.and_eq_true, Nat.beq_eq] at e
    omega
theorem sGset_7 (g : zg) (r : zgp) : sGset g r 7 = g 7 ∧ sGset g r 8 = g 8 := by
  unfold sGset
  cases r.1 <;> exact ⟨rfl, rfl⟩
theorem sGset_ok {g : zg} {r : zgp} (hg : gOk g) (h : gpOk r) : gOk (sGset g r) := by
  obtain ⟨h0, h1, h2, h3, h4, h5, h6, h7, h8⟩ := hg
  obtain ⟨r1, a, b, d, m⟩ := r
  have hm := zbn_le m
  cases r1 with
  | true =>
    obtain ⟨p1, p2⟩ := h.1 rfl
    exact ⟨Nat.le_refl _, h1, h2, h3, hm, p1, p2, h7, h8⟩
  | false =>
    obtain ⟨p1, p2, p3⟩ := h.2 rfl
    exact ⟨Nat.zero_le _, p1, p2, p3, hm, h5, h6, h7, h8⟩
theorem kG_set {g : zg} {r : zgp} {I : zI} (hg : gOk g) (h : gpOk r) (hr : kDr r I) (hd : kD I) {I' : zI} (e : ∀ k, k < 6 → I' 45 k = I 43 k) : kG (sGset g r) I' := by
  have ok := sGset_ok hg h
  obtain ⟨d0, d1, d2⟩ := hd
  obtain ⟨r1, a, b, d, m⟩ := r
  obtain ⟨h5, hc⟩ := hr
  refine ⟨ok, ?_, ?_, ?_, ?_⟩
  · rw [e 3 (by decide)]
    rcases hc with ⟨rfl, c1, c2⟩ | ⟨rfl, c1, c2, c3⟩
    · exact c1
    · exact c1
  · rw [e 5 (by decide), h5]
    exact zbn_i m
  · intro z
    rw [e 0 (by decide), e 1 (by decide), e 2 (by decide)]
    rcases hc with ⟨rfl, c1, c2⟩ | ⟨rfl, c1, c2, c3⟩
    · exact absurd (show (1 : Nat) = 0 from z) (by decide)
    · exact c3
  · intro z
    rw [e 0 (by decide), e 1 (by decide), e 2 (by decide), e 4 (by decide)]
    rcases hc with ⟨rfl, c1, c2⟩ | ⟨rfl, c1, c2, c3⟩
    · exact ⟨c2, d0, d1, d2⟩
    · exact absurd (show (0 : Nat) = 1 from z) (by decide)
section
variable {G : zG} {n : Nat} {I : zI} {L : zL} {R : zR} {q : zq} {post : zPo} {g : zg} {c : sC} {fr : Nat → Nat} {nr : Nat} {rl : zrl} {ru : Option Nat} {nf : Nat} {fo : Nat → zfo} {en : Nat → Int32} {tx : Nat → Nat} {tn : Nat} {kp : Nat → Bool} {kc : Nat → sC} {wa : List zwt} {ro : List Int64} {t : Nat}
theorem k_take {b : Bool} (h5 : I 43 5 = zbo b) (h : ∀ I' : zI, (∀ k, k < 6 → I' 45 k = I 43 k) → I' 44 8 = 0 → (∀ o k, ¬ ((o = 45 ∧ k < 6) ∨ (o = 44 ∧ k = 8)) → I' o k = I o k) → post none I' L (zR1 q)) : zC G (n + 2) 213 [.ref 44, .ref 43] I L (zR1 q) post := by
  have nf : narrow .boolean (.int (I 43 5)) = .int (I 43 5) ∧ fits .boolean (.int (I 43 5)) = true := by
    rw [h5]
    exact ⟨zbo_nar b, zbo_fit b⟩
  refine zin0 rfl rfl rfl (b213_0 (zin0 rfl rfl rfl (b184_0 (And.intro nf (And.intro ⟨rfl, rfl⟩ ?_)))))
  show post none (zup (zup (zup (zup (zup (zup (zup I 45 0 (I 43 0)) 45 1 (I 43 1)) 45 2 (I 43 2)) 45 3 (I 43 3)) 45 4 (I 43 4)) 45 5 (I 43 5)) 44 8 0) L (zR1 q)
  refine h _ (fun k hk => ?_) (by rw [zup_self]) (fun o k z => ?_)
  · have c : k = 0 ∨ k = 1 ∨ k = 2 ∨ k = 3 ∨ k = 4 ∨ k = 5 := by omega
    rcases c with rfl | rfl | rfl | rfl | rfl | rfl <;> rfl
  · unfold zup
    by_cases d : o = 44
    · rw [if_pos d, if_neg (by omega), if_neg (by omega), if_neg (by omega), if_neg (by omega), if_neg (by omega), if_neg (by omega), if_neg (by omega)]
    · rw [if_neg d]
      by_cases d2 : o = 45
      · rw [if_pos d2, if_neg (by omega), if_pos d2, if_neg (by omega), if_pos d2, if_neg (by omega), if_pos d2, if_neg (by omega), if_pos d2, if_neg (by omega), if_pos d2, if_neg (by omega)]
      · rw [if_neg d2, if_neg d2, if_neg d2, if_neg d2, if_neg d2, if_neg d2]
theorem w_game (h : wB g c fr nr rl ru nf fo en tx tn kp kc wa ro t I L) : zC G (n + 300) 258 [.ref 40] I L (zR1 q) (wPo G (n + 300) 53 [.ref 0] t) := by
  obtain ⟨hM, hC⟩ := h
  have hall := hM.2.1.2.1
  have hemp := cIn_emp hM.2.1.2
  have hg := hM.1.1.1
  have tn60 := hC.2.1.2.2.1
  refine zin0 rfl rfl rfl (b258_0 (k_rewind hC.2.1.2 (fun t0 => ?_)))
  have ho0 : ∀ o k, ¬ (o = 41 ∧ k = 2) → zup I 41 2 0 o k = I o k := fun o k z => by
    unfold zup
    by_cases d : o = 41
    · rw [if_pos d, if_neg (fun w => z ⟨d, w⟩)]
    · rw [if_neg d]
  refine k_readGame t0 (kD_of hC.2.1.1 (zup_ne (by decide))) (fun r p er hok I1 dr1 d1 t1 f1 => And.intro (fun z => absurd z (by decide)) (fun _ => ?_)) (fun e er I1 d1 t1 f1 => And.intro (fun _ => b258_27 (k_fault t1 (b258_34 ?_))) (fun z => absurd rfl z))
  · -- read
    have ho1 : ∀ o k, ¬ ((o = 41 ∧ k = 2) ∨ o = 43) → I1 o k = I o k := fun o k z => (f1 o k (tGR_no z)).trans (ho0 o k (by omega))
    refine b258_34 (k_clear t1 (fun I2 t2 f2 => And.intro (fun z => absurd z (by decide)) (fun _ => ?_)))
    have ho2 : ∀ o, ¬ (o = 41 ∨ o = 42) → I2 o = I1 o := fun o z => funext fun k => f2 o k (tXt_no z)
    refine k_take (b := r.2.2.2.2) (by rw [ho2 43 (by decide)]; exact dr1.1) (fun I3 e45 e44 o3 => ?_)
    refine zin0 rfl rfl rfl (b186_0 (And.intro ⟨rfl, rfl⟩ ?_))
    show zC G (n + 299) 294 [.ref 40] (zup I3 51 14 0) L (zR1 q) _
    obtain ⟨I4, hI4⟩ : ∃ I4 : zI, I4 = zup I3 51 14 0 := ⟨_, rfl⟩
    rw [← hI4]
    have o4 : ∀ o k, ¬ ((o = 45 ∧ k < 6) ∨ (o = 44 ∧ k = 8) ∨ (o = 51 ∧ k = 14) ∨ o = 41 ∨ o = 42 ∨ o = 43) → I4 o k = I o k := fun o k z => by
      rw [hI4]
      unfold zup
      by_cases d : o = 51
      · rw [if_pos d, if_neg (by omega), o3 o k (by omega), ho2 o (by omega), ho1 o k (by omega)]
      · rw [if_neg d, o3 o k (by omega), ho2 o (by omega), ho1 o k (by omega)]
    refine w_emptyChest hall (kC_of hC.2.2.1 (funext fun k => o4 63 k (by omega)) (funext fun k => o4 64 k (by omega)) (fun k _ => o4 62 k (by omega))) (fun I5 k5 h5 o5 => ?_)
    have b5 : ∀ o, 40 ≤ o → o ≤ 61 → I5 o = I4 o := fun o w1 w2 => funext fun k => o5 o k (by unfold kp5; omega)
    have e43 : I4 43 = I1 43 := by rw [hI4, zup_ne (by decide), show I3 43 = I2 43 from funext fun k => o3 43 k (by omega), ho2 43 (by decide)]
    have kg5 : kG (sGset g r) I5 := kG_set hg hok dr1 d1 (fun k hk => by
      rw [b5 45 (by decide) (by decide), hI4, zup_ne (by decide), e45 k hk, ho2 43 (by decide)])
    have hz5 : kZ (sGset g r) I5 := ⟨kg5, by rw [b5 51 (by decide) (by decide), o4 51 1 (by omega), (sGset_7 g r).1]; exact hC.1.2.1, by rw [b5 51 (by decide) (by decide), o4 51 2 (by omega), (sGset_7 g r).2]; exact hC.1.2.2.1, Or.inl (by rw [b5 44 (by decide) (by decide), hI4, zup_ne (by decide)]; exact e44), Or.inl (by rw [b5 51 (by decide) (by decide), hI4, zup_self])⟩
    have h2 : ∀ o, ¬ (o = 98 ∨ o = 101 ∨ o = 104 ∨ (41 ≤ o ∧ o ≤ 64)) → I5 o = I o := fun o z => funext fun k => (o5 o k (by unfold kp5; omega)).trans (o4 o k (by omega))
    have t5 : kTx tx 0 0 I5 := kTx_of t2 (by rw [b5 41 (by decide) (by decide), hI4, zup_ne (by decide)]; exact funext fun k => o3 41 k (by omega)) (by rw [b5 42 (by decide) (by decide), hI4, zup_ne (by decide)]; exact funext fun k => o3 42 k (by omega))
    have C5 : wC ((sGset g r)) ((cClr c)) fr nr rl ru nf fo en tx 0 ((fun _ => false)) kc wa ro t I5 L := ⟨hz5, ⟨kD_of d1 (by rw [b5 43 (by decide) (by decide)]; exact e43), t5⟩, k5 _ kg5.1, fun i hi => ⟨h5 i hi, fun z => by cases z⟩, kFr_of hC.2.2.2.2.1 (h2 69 (by omega)), kRs_of hC.2.2.2.2.2.1 (by rw [h2 40 (by omega)]) (by rw [h2 40 (by omega)]) (fun o z1 z2 => h2 o (by omega)), kFs_of hC.2.2.2.2.2.2.1 (by rw [h2 40 (by omega)]) (fun o z => h2 o (by omega)), (fun k hk => by rw [h2 77 (by omega), h2 84 (by omega)]; exact hC.2.2.2.2.2.2.2.1 k hk), kEn_of hC.2.2.2.2.2.2.2.2.1 (h2 94 (by omega)), kWa_of hC.2.2.2.2.2.2.2.2.2.1 (by rw [h2 40 (by omega)]) (h2 95 (by omega)), kRow_of hC.2.2.2.2.2.2.2.2.2.2.1 (h2 96 (by omega)) rfl, kMk_of hC.2.2.2.2.2.2.2.2.2.2.2 (h2 89 (by omega)) (h2 91 (by omega)) (h2 92 (by omega))⟩
    have M5 := wM_lo hM (I' := I5) (L' := L) (fun o z => h2 o (by omega)) (fun _ _ => rfl)
    refine b258_68 ⟨⟨_, rfl⟩, q, rfl, c_game M5.1.1 M5.2.1.1 hall hemp M5.2.2.2.2.2.2.1 (fun r2 p2 er2 I6 g6 m6 c6 h29 h31 _ f6 => ?_) (fun e2 er2 => by rw [er] at er2; cases er2)⟩
    rw [er] at er2
    cases er2
    have hf : ∀ o k, ¬ (o = 1 ∨ o = 2 ∨ o = 3 ∨ o = 4 ∨ o = 5 ∨ o = 29 ∨ (o = 0 ∧ (k < 7 ∨ k = 14 ∨ k = 31 ∨ k = 34 ∨ k = 39 ∨ k = 40 ∨ k = 41))) → I6 o k = I5 o k := fun o k z => f6 o k (tGm_no z)
    have M6 : wM ((sGset g r)) ((cClr c)) fr nr rl ru nf fo en tx 0 ((fun _ => false)) kc wa ro I6 L := ⟨⟨g6, m6⟩, ⟨c6, cIn_clr hall⟩, (fun s hs => ⟨(hf 6 s (by omega)).trans (M5.2.2.1 s hs).1, (M5.2.2.1 s hs).2⟩), mRl_of M5.2.2.2.1 (hf 0 18 (by omega)) (hf 0 22 (by omega)) (funext fun k => hf 7 k (by omega)) (funext fun k => hf 8 k (by omega)) (funext fun k => hf 9 k (by omega)), mFo_fr M5.2.2.2.2.1 (hf 0 23 (by omega)) (funext fun k => hf 10 k (by omega)) (funext fun k => hf 11 k (by omega)) (funext fun k => hf 12 k (by omega)) (funext fun k => hf 14 k (by omega)) rfl, (fun k hk => (hf 15 k (by omega)).trans (M5.2.2.2.2.2.1 k hk)), ⟨h31, by omega, fun j hj => absurd hj (Nat.not_lt_zero _)⟩, ⟨fun i hi => h29 i hi, fun i hi z => by cases z⟩, mWa_of M5.2.2.2.2.2.2.2.2.1 (hf 0 66 (by omega)) (funext fun k => hf 36 k (by omega)) (funext fun k => hf 37 k (by omega)) (funext fun k => hf 38 k (by omega)) (funext fun k => hf 39 k (by omega)), ⟨mRow_fr M5.2.2.2.2.2.2.2.2.2.1.1 (hf 0 33 (by omega)) rfl, M5.2.2.2.2.2.2.2.2.2.1.2⟩, (hf 0 35 (by omega)).trans M5.2.2.2.2.2.2.2.2.2.2⟩
    exact ⟨rfl, ⟨q, rfl⟩, ⟨_, _, fr, nr, rl, ru, nf, fo, en, _, _, _, kc, wa, ro, t, by omega, M6, wC_hi C5 (fun o z => funext fun k => hf o k (by omega)) rfl⟩⟩
  · -- not read
    have ho1 : ∀ o k, ¬ ((o = 41 ∧ k = 2) ∨ o = 43) → I1 o k = I o k := fun o k z => (f1 o k (tGR_no z)).trans (ho0 o k (by omega))
    refine k_clear t1 (fun I2 t2 f2 => And.intro (fun _ => b258_68 ?_) (fun z => absurd rfl z))
    have ho2 : ∀ o, ¬ (o = 41 ∨ o = 42) → I2 o = I1 o := fun o z => funext fun k => f2 o k (tXt_no z)
    have ho : ∀ o, ¬ (o = 41 ∨ o = 42 ∨ o = 43) → I2 o = I o := fun o z => funext fun k => (by rw [ho2 o (by omega)]; exact ho1 o k (by omega))
    have C2 : wC g c fr nr rl ru nf fo en tx 0 kp kc wa ro t I2 L := ⟨kZ_of hC.1 (fun o z1 z2 => ho o (by omega)), ⟨kD_of d1 (ho2 43 (by omega)), t2⟩, kC_of hC.2.2.1 (ho 63 (by omega)) (ho 64 (by omega)) (fun k _ => by rw [ho 62 (by omega)]), kKp_of hC.2.2.2.1 (fun o z1 z2 => ho o (by omega)), kFr_of hC.2.2.2.2.1 (ho 69 (by omega)), kRs_of hC.2.2.2.2.2.1 (by rw [ho 40 (by omega)]) (by rw [ho 40 (by omega)]) (fun o z1 z2 => ho o (by omega)), kFs_of hC.2.2.2.2.2.2.1 (by rw [ho 40 (by omega)]) (fun o z => ho o (by omega)), (fun k hk => by rw [ho 77 (by omega), ho 84 (by omega)]; exact hC.2.2.2.2.2.2.2.1 k hk), kEn_of hC.2.2.2.2.2.2.2.2.1 (ho 94 (by omega)), kWa_of hC.2.2.2.2.2.2.2.2.2.1 (by rw [ho 40 (by omega)]) (ho 95 (by omega)), kRow_of hC.2.2.2.2.2.2.2.2.2.2.1 (ho 96 (by omega)) rfl, kMk_of hC.2.2.2.2.2.2.2.2.2.2.2 (ho 89 (by omega)) (ho 91 (by omega)) (ho 92 (by omega))⟩
    have M2 := wM_lo hM (I' := I2) (L' := L) (fun o z => ho o (by omega)) (fun _ _ => rfl)
    refine ⟨⟨_, rfl⟩, q, rfl, c_game M2.1.1 M2.2.1.1 hall hemp M2.2.2.2.2.2.2.1 (fun r2 p2 er2 => by rw [er] at er2; cases er2) (fun e2 er2 I3 h31 _ f3 => ?_)⟩
    rw [er] at er2
    cases er2
    have hf : ∀ o k, ¬ (o = 0 ∧ (k = 31 ∨ k = 34 ∨ k = 39 ∨ k = 40 ∨ k = 41)) → I3 o k = I2 o k := fun o k z => f3 o k (tTx_no z)
    have M3 : wM g c fr nr rl ru nf fo en tx 0 kp kc wa ro I3 L := ⟨⟨⟨M2.1.1.1, fun k z => (hf 0 k (by omega)).trans (M2.1.1.2 k z)⟩, mPos_of M2.1.2 (funext fun k => hf 1 k (by omega)) (funext fun k => hf 2 k (by omega)) (funext fun k => hf 3 k (by omega))⟩, ⟨mC_of M2.2.1.1 (funext fun k => hf 5 k (by omega)) (funext fun k => hf 4 k (by omega)) (hf 0 14 (by omega)) (hf 0 15 (by omega)) (hf 0 16 (by omega)), M2.2.1.2⟩, (fun s hs => ⟨(hf 6 s (by omega)).trans (M2.2.2.1 s hs).1, (M2.2.2.1 s hs).2⟩), mRl_of M2.2.2.2.1 (hf 0 18 (by omega)) (hf 0 22 (by omega)) (funext fun k => hf 7 k (by omega)) (funext fun k => hf 8 k (by omega)) (funext fun k => hf 9 k (by omega)), mFo_fr M2.2.2.2.2.1 (hf 0 23 (by omega)) (funext fun k => hf 10 k (by omega)) (funext fun k => hf 11 k (by omega)) (funext fun k => hf 12 k (by omega)) (funext fun k => hf 14 k (by omega)) rfl, (fun k hk => (hf 15 k (by omega)).trans (M2.2.2.2.2.2.1 k hk)), ⟨h31, by omega, fun j hj => absurd hj (Nat.not_lt_zero _)⟩, ⟨fun i hi => (hf 29 i (by omega)).trans (M2.2.2.2.2.2.2.2.1.1 i hi), fun i hi z => ⟨mK_of (M2.2.2.2.2.2.2.2.1.2 i hi z).1 (funext fun k => hf 30 k (by omega)) (funext fun k => hf 31 k (by omega)) (funext fun k => hf 32 k (by omega)), (M2.2.2.2.2.2.2.2.1.2 i hi z).2⟩⟩, mWa_of M2.2.2.2.2.2.2.2.2.1 (hf 0 66 (by omega)) (funext fun k => hf 36 k (by omega)) (funext fun k => hf 37 k (by omega)) (funext fun k => hf 38 k (by omega)) (funext fun k => hf 39 k (by omega)), ⟨mRow_fr M2.2.2.2.2.2.2.2.2.2.1.1 (hf 0 33 (by omega)) rfl, M2.2.2.2.2.2.2.2.2.2.1.2⟩, (hf 0 35 (by omega)).trans M2.2.2.2.2.2.2.2.2.2.2⟩
    exact ⟨rfl, ⟨q, rfl⟩, ⟨_, _, fr, nr, rl, ru, nf, fo, en, tx, _, _, kc, wa, ro, t, by omega, M3, wC_hi C2 (fun o z => funext fun k => hf o k (by omega)) rfl⟩⟩
end
