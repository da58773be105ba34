-- ===== the reference: a rule told, whole =====
def rs0 : zrS := (fun _ => 0, fun _ => false, 0)
theorem rs0_ok : rsOk rs0 := ⟨fun _ _ => ⟨by show (-99 : Int) ≤ 0; decide, by show (0 : Int) ≤ 99; decide⟩, by show 0 ≤ 99; decide⟩
section
variable {G : zG} {n : Nat} {I : zI} {L : zL} {q : zq} {post : zPo} {g : zg} {c : sC} {tx : Nat → Nat} {tn nr : Nat} {rl : zrl} {ru : Option Nat}
theorem mRl_add {I' : zI} {s : zrS} (h : mRl nr rl ru I) (h8 : nr < 8) (hok : rsOk s) (hs : mRs nr s I') (hf : ∀ o k, o ≠ 0 → tRl nr o k = false → I' o k = I o k) (h18 : I' 0 18 = nI (nr + 1)) (h22 : I' 0 22 = I 0 22) : mRl (nr + 1) (sRlA rl nr s) ru I' := by
  refine ⟨by omega, h18, by rw [h22]; exact h.2.2.1, fun r hr => by have := h.2.2.2.1 r hr; omega, fun r hr => ?_⟩
  by_cases d : r = nr
  · subst d
    refine ⟨fun e he => ?_, ?_⟩
    · show I' 7 (3 * r + e) = iI (fup rl.1 r s.1 r e) ∧ -99 ≤ fup rl.1 r s.1 r e ∧ fup rl.1 r s.1 r e ≤ 99 ∧ I' 8 (3 * r + e) = zbo (fup rl.2.1 r s.2.1 r e)
      rw [fup_s, fup_s]
      exact ⟨(hs.1 e he).1, (hok.1 e he).1, (hok.1 e he).2, (hs.1 e he).2⟩
    · show I' 9 r = nI (fup rl.2.2 r s.2.2 r) ∧ fup rl.2.2 r s.2.2 r ≤ 99
      rw [fup_s]
      exact ⟨hs.2, hok.2⟩
  · have hrn : r < nr := by omega
    obtain ⟨a1, a2⟩ := h.2.2.2.2 r hrn
    have b3 : ∀ e, e < 3 → Nat.ble (3 * nr) (3 * r + e) = false := fun e he => by
      cases q2 : Nat.ble (3 * nr) (3 * r + e) with
      | false => rfl
      | true => have := Nat.ble_eq.mp q2; omega
    have b1 : Nat.ble nr r = false := by
      cases q2 : Nat.ble nr r with
      | false => rfl
      | true => have := Nat.ble_eq.mp q2; omega
    refine ⟨fun e he => ?_, ?_⟩
    · show I' 7 (3 * r + e) = iI (fup rl.1 nr s.1 r e) ∧ -99 ≤ fup rl.1 nr s.1 r e ∧ fup rl.1 nr s.1 r e ≤ 99 ∧ I' 8 (3 * r + e) = zbo (fup rl.2.1 nr s.2.1 r e)
      rw [fup_n d, fup_n d, hf 7 (3 * r + e) (by decide) (by unfold tRl; rw [b3 e he]; rfl), hf 8 (3 * r + e) (by decide) (by unfold tRl; rw [b3 e he]; rfl)]
      exact a1 e he
    · show I' 9 r = nI (fup rl.2.2 nr s.2.2 r) ∧ fup rl.2.2 nr s.2.2 r ≤ 99
      rw [fup_n d, hf 9 r (by decide) (by unfold tRl; rw [b1]; rfl)]
      exact a2
theorem mRl_keep {I' : zI} (h : mRl nr rl ru I) (hf : zFr (tRl nr) I I') : mRl nr rl ru I' := by
  refine ⟨h.1, (hf 0 18 rfl).trans h.2.1, (hf 0 22 rfl).trans h.2.2.1, h.2.2.2.1, fun r hrn => ?_⟩
  obtain ⟨a1, a2⟩ := h.2.2.2.2 r hrn
  have b3 : ∀ e, e < 3 → Nat.ble (3 * nr) (3 * r + e) = false := fun e he => by
    cases q2 : Nat.ble (3 * nr) (3 * r + e) with
    | false => rfl
    | true => have := Nat.ble_eq.mp q2; omega
  have b1 : Nat.ble nr r = false := by
    cases q2 : Nat.ble nr r with
    | false => rfl
    | true => have := Nat.ble_eq.mp q2; omega
  refine ⟨fun e he => ?_, ?_⟩
  · rw [hf 7 (3 * r + e) (by unfold tRl; rw [b3 e he]; rfl), hf 8 (3 * r + e) (by unfold tRl; rw [b3 e he]; rfl)]
    exact a1 e he
  · rw [hf 9 r (by unfold tRl; rw [b1]; rfl)]
    exact a2
/-- what telling a rule touches -/
def tRu (nr o k : Nat) : Bool := tRl nr o k || (Nat.beq o 0 && (Nat.beq k 31 || Nat.beq k 34 || Nat.beq k 39 || Nat.beq k 18))
theorem tRl_tRu {I I' : zI} (h : zFr (tRl nr) I I') : zFr (tRu nr) I I' := fun o k z => h o k (by
  unfold tRu at z
  simp only [Bool.or_eq_false_iff] at z
  exact z.1)
theorem c_rule (hrl : mRl nr rl ru I) (ht : mTx tx tn I) (h8 : nr = 8 → ∀ I' : zI, mRl nr rl ru I' → I' 0 31 = 0 → I' 0 34 = 0 → zFr (tRu nr) I I' → post (some (.int (-100))) I' L (zR1 q)) (h1 : nr < 8 → ∀ s p, tRule tx tn 41 rs0 0 = (some s, p) → rsOk s → ∀ I' : zI, mRl (nr + 1) (sRlA rl nr s) ru I' → I' 0 31 = 0 → I' 0 34 = 0 → zFr (tRu nr) I I' → post (some (.int (nI nr))) I' L (zR1 q)) (h0 : nr < 8 → ∀ e, tRule tx tn 41 rs0 0 = (none, e) → ∀ I' : zI, mRl nr rl ru I' → I' 0 31 = 0 → I' 0 34 = 0 → zFr (tRu nr) I I' → post (some (.int (-1 - nI e))) I' L (zR1 q)) : zC G (n + 6) 54 [.ref 0] I L (zR1 q) post := by
  have hn8 := hrl.1
  refine zin0 rfl rfl rfl (b54_0 (c_startText (tx := tx) (tn := tn) ?_ fun I1 hp1 h311 ho1 => ?_))
  · exact ⟨ht.1, ht.2.1, fun j hj => by rw [zup_ne (by decide)]; exact ht.2.2 j hj⟩
  have h341 : I1 0 34 = 0 := by rw [ho1 0 34 (by omega)]; rfl
  have hf1 : zFr (tRu nr) I I1 := fun o k z => by
    unfold tRu tRl at z
    simp only [Bool.or_eq_false_iff] at z
    rw [ho1 o k (fun ⟨x1, x2⟩ => by subst x1; rcases x2 with a | a | a | a <;> subst a <;> first | (cases z.2; done) | (cases z.1.1.1; done))]
    unfold zup
    by_cases d : o = 0
    · rw [if_pos d, if_neg (fun a => by subst d a; cases z.2)]
    · rw [if_neg d]
  have e18 : I1 0 18 = nI nr := by rw [ho1 0 18 (by omega)]; exact hrl.2.1
  have hrl1 : mRl nr rl ru I1 := mRl_of hrl (by rw [ho1 0 18 (by omega)]; rfl) (by rw [ho1 0 22 (by omega)]; rfl) (funext fun k => by rw [ho1 7 k (by omega), zup_ne (by decide)]) (funext fun k => by rw [ho1 8 k (by omega), zup_ne (by decide)]) (funext fun k => by rw [ho1 9 k (by omega), zup_ne (by decide)])
  refine pk_ne nr 8 (fun z => b54_21 ?_) (fun z => ?_) e18 rfl (by omega) (by omega)
  · have hlt : nr < 8 := by omega
    have h1 := h1 hlt
    have h0 := h0 hlt
    -- the end
    have bad : ∀ (e p : Nat) (I2 : zI), tRule tx tn 41 rs0 0 = (none, e) → mPr tx tn p (some e) I2 → zFr (tRl nr) I1 I2 → zQ G 54 (n + 5) post 92 [some (.ref 0), none] [] I2 L (zR1 q) := by
      intro e p I2 hR hp2 hf2
      have hne : ¬ (-1 - nI e = 0) := (by decide : ∀ e, e ≤ 60 → ¬ (-1 - nI e = 0)) e (hp2.2.2.2.2.2.1 e rfl)
      refine b54_92 (c_ends1 hp2 (And.intro (fun w => absurd w hne) (fun _ => ?_)))
      exact h0 e hR I2 (mRl_keep hrl1 hf2) ((hf2 0 31 rfl).trans h311) ((hf2 0 34 rfl).trans h341) (zFr_tr hf1 (tRl_tRu hf2))
    -- the lines
    have lines : ∀ (f : Nat) (s : zrS) (a : Nat) (I2 : zI), 41 ≤ f + a → a ≤ 40 → tRule tx tn f s a = tRule tx tn 41 rs0 0 → rsOk s → mPr tx tn a none I2 → mRs nr s I2 → zFr (tRl nr) I1 I2 → zQ G 54 (n + 5) post 72 [some (.ref 0), none] [] I2 L (zR1 q) := by
      intro f
      induction f with
      | zero => intro s a I2 hfa ha; omega
      | succ f ih =>
        intro s a I2 hfa ha hR hok hp2 hs2 hf2
        rw [tRule] at hR
        refine b54_72 (c_ruleLine hlt ((hf2 0 18 rfl).trans e18) hp2 hs2 hok (fun s' p hL hok' hap hp41 I3 hp3 hs3 hf3 => ?_) (fun e hL p I3 hp3 hf3 => ?_))
        · rw [hL] at hR
          have hR : (if tH tx tn p = some 59 then tRule tx tn f s' (p + 1) else tEnd tn s' p) = tRule tx tn 41 rs0 0 := hR
          have hf13 := zFr_tr hf2 hf3
          refine c_fine hp3 (And.intro (fun w => absurd w (by decide)) (fun _ => c_passes (c := 59) rfl hp3 (by decide) (fun z2 => ?_) (fun z2 => ?_)))
          · rw [if_pos z2] at hR
            have hp40 := (tH_lt hp3 z2).2.2
            refine And.intro (fun _ => ?_) (fun w => absurd w (by decide))
            exact ih s' (p + 1) _ (by omega) (by omega) hR hok' (mPr_at hp3 (by omega)) (mRs_fr hs3 (zup_ne (by decide)) (zup_ne (by decide)) (zup_ne (by decide))) (zFr_tr hf13 (zFr_up (zFr_0 _ _) rfl))
          · rw [if_neg z2] at hR
            refine And.intro (fun w => absurd rfl w) (fun _ => b54_92 (c_ends hp3 (fun z3 => ?_) (fun z3 => ?_)))
            · have hne : ¬ (-1 - nI p = 0) := (by decide : ∀ e, e ≤ 60 → ¬ (-1 - nI e = 0)) p (by omega)
              unfold tEnd at hR
              rw [if_pos z3] at hR
              have hf4 : zFr (tRl nr) I1 (zup I3 0 41 (nI p)) := zFr_up hf13 rfl
              refine And.intro (fun w => absurd w hne) (fun _ => h0 p hR.symm _ (mRl_keep hrl1 hf4) ((hf4 0 31 rfl).trans h311) ((hf4 0 34 rfl).trans h341) (zFr_tr hf1 (tRl_tRu hf4)))
            · unfold tEnd at hR
              rw [if_neg (by omega)] at hR
              refine And.intro (fun _ => b54_103 (And.intro rfl ?_)) (fun w => absurd rfl w)
              have e183 : I3 0 18 = nI nr := (hf13 0 18 rfl).trans e18
              have qq := h1 s' p hR.symm hok' (zup I3 0 18 (nI (nr + 1))) (mRl_add (I := I1) hrl1 hlt hok' (mRs_fr hs3 (zup_ne (by decide)) (zup_ne (by decide)) (zup_ne (by decide))) ?_ zup_self ((hf13 0 22 rfl))) ((hf13 0 31 rfl).trans h311) ((hf13 0 34 rfl).trans h341) (zFr_tr hf1 (zFr_up (tRl_tRu hf13) (by unfold tRu; rw [Bool.or_eq_true]; exact Or.inr rfl)))
              · show post (some (.int (zup I3 0 18 (I3 0 18 + 1) 0 18 - 1))) (zup I3 0 18 (I3 0 18 + 1)) L (zR1 q)
                rw [e183, nI_1, zup_self, nI_pred]
                exact qq
              · intro o k ho z4
                rw [zup_ne ho]
                exact hf13 o k z4
        · rw [hL] at hR
          have hR : (none, e) = tRule tx tn 41 rs0 0 := hR
          refine c_fine hp3 (And.intro (fun _ => bad e p I3 hR.symm hp3 (zFr_tr hf2 hf3)) (fun w => absurd rfl w))
    have ecr : (I1 0 18).toNatClampNeg = nr := by rw [e18, nI_clamp (by omega)]
    have zero : ∀ j i : Nat, i + j = 3 → ∀ I2 : zI, (∀ k, k < i → I2 7 (3 * nr + k) = 0 ∧ I2 8 (3 * nr + k) = 0) → mPr tx tn 0 none I2 → zFr (tRl nr) I1 I2 → zQ G 54 (n + 5) post 23 [some (.ref 0), some (.int (nI i))] [] I2 L (zR1 q) := by
      intro j
      induction j with
      | zero =>
        intro i hi I2 hz hp2 hf2
        have e182 : I2 0 18 = nI nr := (hf2 0 18 rfl).trans e18
        refine b54_23 (pk_le 3 i (fun _ => b54_62 (And.intro (by show vp_in (I2 0 18) 8; rw [e182]; exact vp_in_nI hlt (by decide)) ?_)) (fun w => absurd w (by omega)) rfl rfl (by omega) (by omega))
        show zQ G 54 (n + 5) post 72 _ [] (zup I2 9 (I2 0 18).toNatClampNeg 0) L (zR1 q)
        rw [e182, nI_clamp (by omega)]
        refine zP_lv ?_ (lines 41 rs0 0 (zup I2 9 nr 0) (by omega) (by omega) rfl rs0_ok ?_ ⟨fun k hk => ?_, zup_self⟩ (zFr_up hf2 (tRl_9 (Nat.le_refl _))))
        · exact ⟨rfl, trivial⟩
        · obtain ⟨b1, b2, b3, b4, b5, b6, b7⟩ := hp2
          exact ⟨b1, b2, b3, b4, b5, b6, fun j hj => by rw [zup_ne (by decide)]; exact b7 j hj⟩
        · rw [zup_ne (by decide), zup_ne (by decide)]
          have := hz k (by omega)
          rw [this.1, this.2]
          exact ⟨rfl, rfl⟩
      | succ j ih =>
        intro i hi I2 hz hp2 hf2
        have e182 : I2 0 18 = nI nr := (hf2 0 18 rfl).trans e18
        have k3 : (3 : Int32) * I2 0 18 + nI i = nI (3 * nr + i) := by rw [e182, show (3 : Int32) = nI 3 from rfl, pk_mul, nI_add]
        have vin : vp_in ((3 : Int32) * I2 0 18 + nI i) 24 := by rw [k3]; exact vp_in_nI (by omega) (by decide)
        have ec : ((3 : Int32) * I2 0 18 + nI i).toNatClampNeg = 3 * nr + i := by rw [k3, nI_clamp (by omega)]
        have vin2 : vp_in ((3 : Int32) * zup I2 7 ((3 : Int32) * I2 0 18 + nI i).toNatClampNeg 0 0 18 + nI i) 24 := by rw [zup_ne (by decide)]; exact vin
        refine b54_23 (pk_le 3 i (fun w => absurd w (by omega)) (fun _ => And.intro vin (And.intro vin2 ?_)) rfl rfl (by omega) (by omega))
        have q2 := ih (i + 1) (by omega) (zup (zup I2 7 (3 * nr + i) 0) 8 (3 * nr + i) 0) (fun k hk => ?_) ?_ (zFr_up (zFr_up hf2 (tRl_7 (by omega))) (tRl_8 (by omega)))
        · show zQ G 54 (n + 5) post 23 _ [] (zup (zup I2 7 ((3 : Int32) * I2 0 18 + nI i).toNatClampNeg 0) 8 ((3 : Int32) * zup I2 7 ((3 : Int32) * I2 0 18 + nI i).toNatClampNeg 0 0 18 + nI i).toNatClampNeg (vp_nar .boolean 0)) L (zR1 q)
          rw [zup_ne (o' := 0) (by decide), ec, show vp_nar .boolean 0 = 0 by decide]
          rw [← nI_1] at q2
          exact q2
        · rw [zup_ne (by decide), zup_eq, zup_eq, zup_ne (by decide)]
          by_cases d : k = i
          · rw [if_pos (by omega), if_pos (by omega)]
            exact ⟨rfl, rfl⟩
          · rw [if_neg (by omega), if_neg (by omega)]
            exact hz k (by omega)
        · obtain ⟨b1, b2, b3, b4, b5, b6, b7⟩ := hp2
          exact ⟨b1, b2, b3, b4, b5, b6, fun j hj => by rw [zup_ne (by decide), zup_ne (by decide)]; exact b7 j hj⟩
    exact zero 3 0 (by omega) I1 (fun _ hk => absurd hk (by omega)) hp1 (zFr_0 _ _)
  · exact h8 z I1 hrl1 h311 h341 hf1
end
