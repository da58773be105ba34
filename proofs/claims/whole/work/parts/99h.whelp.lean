-- ===== the class: what its calls share =====
theorem tLA_out {o k : Nat} (h : o < 44 ∨ 61 < o) : tLA o k = false := by
  cases e : tLA o k with
  | false => rfl
  | true =>
    unfold tLA tTL tMB tDT at e
    simp only [Bool.or_eq_true, Bool.and_eq_true, Nat.beq_eq] at e
    omega
theorem zao_t {q : (FieldType × Nat) ⊕ Nat} {k : String → Nat → Prop} {C : String} {m : Nat} (hq : q = .inl (.object C, m)) (h : k C m) : zao q k := by rw [hq]; exact h
theorem zs_foe : ("BoxesWithBeads$Foe" == zcn 3 && Nat.blt 3 zncl) = true := by decide +kernel
theorem zs_rule : ("BoxesWithBeads$Rule" == zcn 8 && Nat.blt 8 zncl) = true := by decide +kernel
theorem zs_chest : ("BoxesWithBeads$Chest" == zcn 1 && Nat.blt 1 zncl) = true := by decide +kernel
theorem iI_sub1 (a b : Int32) : a - b + 1 = a + 1 - b := by rw [Int32.sub_eq_add_neg, Int32.add_assoc, Int32.add_comm (-b), ← Int32.add_assoc, ← Int32.sub_eq_add_neg]
theorem iI_sub2 (a b : Int32) : a + 1 - (b + 1) = a - b := by rw [Int32.add_comm b 1, ← Int32.sub_sub, Int32.add_sub_cancel]
theorem sEnc_kEn {en : Nat → Int32} {how : Nat} (hh : how ≤ 3) {I I' : zI} (h : kEn en I) (h1 : I' 94 how = I 94 how + 1) (h2 : ∀ k, k ≠ how → I' 94 k = I 94 k) : kEn (sEnc en how) I' := by
  obtain ⟨a0, a1, a2, a3⟩ := h
  have c : how = 0 ∨ how = 1 ∨ how = 2 ∨ how = 3 := by omega
  unfold kEn sEnc
  rcases c with rfl | rfl | rfl | rfl
  · rw [if_neg (by decide), h1, h2 1 (by decide), h2 2 (by decide), h2 3 (by decide), a0, a1, a2, a3]
    exact ⟨iI_sub1 _ _, rfl, rfl, rfl⟩
  · rw [if_neg (by decide), h1, h2 0 (by decide), h2 2 (by decide), h2 3 (by decide), a0, a1, a2, a3]
    exact ⟨rfl, rfl, rfl, rfl⟩
  · rw [if_neg (by decide), h1, h2 0 (by decide), h2 1 (by decide), h2 3 (by decide), a0, a1, a2, a3]
    exact ⟨rfl, rfl, rfl, rfl⟩
  · rw [if_pos rfl, h1, h2 0 (by decide), h2 1 (by decide), h2 2 (by decide), a0, a1, a2, a3]
    exact ⟨(iI_sub2 _ _).symm, rfl, rfl, rfl⟩
section
variable {G : zG} {n : Nat} {I : zI} {L : zL} {q : zq} {post : zPo} {g : zg} {c : sC} {fr : Nat → Nat} {nr : Nat} {rl : zrl} {ru : Option Nat} {nf : Nat} {fo : Nat → zfo} {en : Nat → Int32} {tx : Nat → Nat} {tn : Nat} {kp : Nat → Bool} {kc : Nat → sC} {wa : List zwt} {ro : List Int64} {t : Nat}
theorem w_lay (h : wC g c fr nr rl ru nf fo en tx tn kp kc wa ro t I L) (hp : ∀ I' : zI, wC g c fr nr rl ru nf fo en tx tn kp kc wa ro t I' L → kLay g I' → (∀ o, (o < 44 ∨ 61 < o) → I' o = I o) → post none I' L (zR1 q)) : zC G (n + 5) 195 [.ref 51] I L (zR1 q) post := by
  obtain ⟨z1, z2, z3, z4, z5⟩ := id h.1
  refine k_lay z1 z2 z4 z5 (fun I' t1 l1 e8 e14 hf => ?_)
  have ho : ∀ o, (o < 44 ∨ 61 < o) → I' o = I o := fun o z => funext fun k => hf o k (tLA_out z)
  have kz : kZ g I' := ⟨kG_of z1 (zFr_row hf fun _ => rfl), (hf 51 1 rfl).trans z2, (hf 51 2 rfl).trans z3, Or.inr ⟨e8, t1⟩, Or.inr ⟨e14, l1, e8⟩⟩
  refine hp I' (wC_play h (fun o w => ho o (by unfold wKeep at w; omega)) kz (kC_of h.2.2.1 (ho 63 (by omega)) (ho 64 (by omega)) (fun k _ => by rw [ho 62 (by omega)])) (kEn_of h.2.2.2.2.2.2.2.2.1 (ho 94 (by omega))) (kRow_of h.2.2.2.2.2.2.2.2.2.2.1 (ho 96 (by omega)) rfl) (kMk_of h.2.2.2.2.2.2.2.2.2.2.2 (ho 89 (by omega)) (ho 91 (by omega)) (ho 92 (by omega)))) ⟨kz.1, t1, l1, kz.2.2.1⟩ ho
theorem w_foeAt {x : Int32} (hF : kFs nf fo I) (h1 : ∀ f, x = nI f → f < nf → post (some (.ref (131 + 5 * f))) I L (zR1 q)) (h0 : xOut x nf → post (some .null) I L (zR1 q)) : zC G (n + 1) 296 [.ref 40, .int x] I L (zR1 q) post := by
  obtain ⟨h8, h12, -⟩ := hF
  refine zin0 rfl rfl rfl (b296_0x ?_)
  rcases pk_ix x (n := nf) (by omega) with c | c | ⟨f, hf, rfl⟩
  · exact And.intro (fun _ => b296_30 (b296_31 (h0 (.inl c)))) (fun z => absurd c z)
  · refine And.intro (fun z => b296_30 (b296_31 (h0 (.inl z)))) (fun _ => ?_)
    show (I 40 12 ≤ x → _) ∧ (¬ I 40 12 ≤ x → _)
    rw [h12]
    exact And.intro (fun _ => b296_30 (b296_31 (h0 (.inr c)))) (fun z => absurd c z)
  · refine And.intro (fun z => absurd z (nI_pos (by omega))) (fun _ => ?_)
    show (I 40 12 ≤ nI f → _) ∧ (¬ I 40 12 ≤ nI f → _)
    rw [h12]
    refine pk_le nf f (fun z => absurd z (by omega)) (fun _ => pk_le 8 f (fun z => absurd z (by omega)) (fun _ => ?_) rfl rfl (by omega) (by omega)) rfl rfl (by omega) (by omega)
    show zck ("BoxesWithBeads$Foe" == zcn 3 && Nat.blt 3 zncl) (vp_in (nI f) 8 ∧ _)
    refine zck_t zs_foe (And.intro (vp_in_nI (by omega) (by decide)) ?_)
    have e : zR1 q 71 (nI f).toNatClampNeg = some (131 + 5 * f) := by
      rw [nI_clamp (by omega)]
      exact zR_foe f (by omega)
    rw [e]
    exact b296_31 (h1 f rfl hf)
theorem w_ruleNow (hR : kRs nr rl ru I) (h : ∀ (rv : Value) (RO RA RT : Nat), (rv = .null ∨ ∃ o, rv = .ref o) → kRv rl ru rv RO RA RT I → post (some rv) I L (zR1 q)) : zC G (n + 1) 297 [.ref 40] I L (zR1 q) post := by
  obtain ⟨h8, h9, h10, hru, hr⟩ := hR
  refine zin0 rfl rfl rfl (b297_0x ?_)
  show (I 40 10 < 0 → _) ∧ (¬ I 40 10 < 0 → (I 40 9 ≤ I 40 10 → _) ∧ (¬ I 40 9 ≤ I 40 10 → (_ ≤ I 40 10 → _) ∧ (¬ _ ≤ I 40 10 → _)))
  cases ru with
  | none =>
    have e10 : I 40 10 = -1 := h10
    exact And.intro (fun _ => b297_42 (b297_43 (h .null 0 0 0 (Or.inl rfl) rfl))) (fun z => absurd (by rw [e10]; decide) z)
  | some r =>
    have hrn := hru r rfl
    have e10 : I 40 10 = nI r := h10
    have e : zR1 q 70 (I 40 10).toNatClampNeg = some (107 + 3 * r) := by
      rw [e10, nI_clamp (by omega)]
      exact zR_rule r (by omega)
    refine And.intro (fun z => absurd z (by rw [e10]; exact nI_pos (by omega))) (fun _ => pk_le nr r (fun z => absurd z (by omega)) (fun _ => pk_le 8 r (fun z => absurd z (by omega)) (fun _ => ?_) rfl e10 (by omega) (by omega)) h9 e10 (by omega) (by omega))
    show zck ("BoxesWithBeads$Rule" == zcn 8 && Nat.blt 8 zncl) (vp_in (I 40 10) 8 ∧ _)
    refine zck_t zs_rule (And.intro (by rw [e10]; exact vp_in_nI (by omega) (by decide)) ?_)
    rw [e]
    exact b297_43 (h (.ref (107 + 3 * r)) _ _ _ (Or.inr ⟨_, rfl⟩) ⟨rfl, kRo_r (by omega), hr r hrn⟩)
/-- what a game of the class's touches -/
def wPl (o : Nat) : Prop := (62 ≤ o ∧ o ≤ 64) ∨ (72 ≤ o ∧ o ≤ 76) ∨ o = 79 ∨ o = 86 ∨ o = 87 ∨ o = 94
theorem w_playOne {f : Nat} (h : wC g c fr nr rl ru nf fo en tx tn kp kc wa ro t I L) (hL : kLay g I) (hin : cIn g c) (hf : f < nf) (hp : ∀ (I' : zI) (L' : zL), kC g (sGm g fr rl ru (fo f) c).2.1 62 63 64 I' → kMs 72 73 (sGm g fr rl ru (fo f) c).2.2 I' → kEn (sEnc en (sGm g fr rl ru (fo f) c).1) I' → (∀ o, ¬ wPl o → I' o = I o) → lPk L L' → post (some (.int (nI (sGm g fr rl ru (fo f) c).1))) I' L' (zR1 q)) : zC G (n + 6) 298 [.ref 40, .ref (131 + 5 * f)] I L (zR1 q) post := by
  obtain ⟨h1, h2, h3, h4, h5, h6, h7, h8, h9, h10, h11, h12⟩ := id h
  have hX : kXo 72 73 74 75 76 77 62 63 64 := Or.inl (by decide)
  have hFb := kFb_f (f := f) (by have := h7.1; omega)
  have hhow := sGm_how (g := g) (fr := fr) (rl := rl) (ru := ru) (F := fo f) (c := c)
  refine zin0 rfl rfl rfl (b298_0 ?_)
  refine w_ruleNow h6 (fun rv RO RA RT hv hrv => ?_)
  have mt := fun post' hp => k_meetD (G := G) (n := n) (I := I) (L := L) (q := q) (post := post') hX rfl hFb (h7.2.2 f hf).1 ⟨(h7.2.2 f hf).2, hL, fun k hk => (h8 k hk).1, hrv⟩ ⟨⟨rfl, rfl⟩, Or.inl rfl⟩ h5 h3 hin hp
  rcases hv with rfl | ⟨ro1, rfl⟩ <;> (
    refine mt _ (fun I' kc1 ms1 fr1 L' lp1 => ?_)
    generalize hhe : (sGm g fr rl ru (fo f) c).1 = how at *
    have e94 : I' 94 = I 94 := funext fun k => fr1 94 k (pMt_far hX (by omega))
    have v4 : vp_in (nI how) 4 := vp_in_nI (by omega) (by decide)
    have ec : (nI how).toNatClampNeg = how := nI_clamp (by omega)
    have bk : ∀ o, o ≠ 94 → zup I' 94 how (I' 94 how + 1) o = I' o := fun o z => zup_ne z
    have qq := hp (zup I' 94 how (I' 94 how + 1)) L' (kC_of kc1 (bk 63 (by decide)) (bk 64 (by decide)) (fun k _ => by rw [bk 62 (by decide)])) ⟨by rw [bk 72 (by decide)]; exact ms1.1, fun j x hx => by rw [bk 73 (by decide)]; exact ms1.2 j x hx⟩ (sEnc_kEn hhow h9 (by rw [zup_self, e94]) (fun k z => by rw [zup_k z, e94])) (fun o z => by
      unfold wPl at z
      rw [bk o (by omega)]
      exact funext fun k => fr1 o k (pMt_no (by omega) (by omega))) lp1
    refine And.intro (fun z => absurd z (nI_pos (by omega))) (fun _ => pk_le 4 how (fun z => absurd z (by omega)) (fun _ => And.intro ⟨rfl, rfl⟩ (And.intro v4 (And.intro v4 (b298_44 ?_)))) rfl rfl (by omega) (by omega))
    rw [ec]
    exact qq)
end
