-- ===== the class: looking =====
theorem zR1_8 (q : zq) (x : Option Nat) : zup (zR1 q) 89 8 x = zR1 (x, q.2.1, q.2.2) := by
  funext o k
  unfold zup zR1
  by_cases d : o = 89
  · subst d
    rw [if_pos rfl]
    by_cases e : k = 8
    · subst e
      rfl
    · rw [if_neg e, zbeq_f e]
      rfl
  · rw [if_neg d, zbeq_f d]
    rfl
theorem zR1_9 (q : zq) (x : Option Nat) : zup (zR1 q) 89 9 x = zR1 (q.1, x, q.2.2) := by
  funext o k
  unfold zup zR1
  by_cases d : o = 89
  · subst d
    rw [if_pos rfl]
    by_cases e : k = 9
    · subst e
      rfl
    · rw [if_neg e, zbeq_f e]
      rfl
  · rw [if_neg d, zbeq_f d]
    rfl
theorem zR1_10 (q : zq) (x : Option Nat) : zup (zR1 q) 89 10 x = zR1 (q.1, q.2.1, x) := by
  funext o k
  unfold zup zR1
  by_cases d : o = 89
  · subst d
    rw [if_pos rfl]
    by_cases e : k = 10
    · subst e
      rfl
    · rw [if_neg e, zbeq_f e]
      rfl
  · rw [if_neg d, zbeq_f d]
    rfl
/-- the forecast's marks: none is newer than the looks -/
def kMk (t : Nat) (I : zI) : Prop := I 89 6 = nI t ∧ (∀ x, x < 19683 → ∃ j, j ≤ t ∧ I 91 x = nI j) ∧ ∀ x, x < 2423 → ∃ j, j ≤ t ∧ I 92 x = nI j
theorem kMk_of {t : Nat} {I I' : zI} (h : kMk t I) (h6 : I' 89 = I 89) (h1 : I' 91 = I 91) (h2 : I' 92 = I 92) : kMk t I' := by
  unfold kMk
  rw [h6, h1, h2]
  exact h
section
variable {G : zG} {n : Nat} {I : zI} {L : zL} {q : zq} {post : zPo} {g : zg} {fr : Nat → Nat} {c : sC} {F : zfo} {O B P FO FA FB FC FD : Nat} {t : Nat}
theorem k_of {e : Nat} {ei : Int32} (hei : ei = nI e) (hg : kG g I) (he : e < 3) (h : post (some (.int (I 90 (3 * sFirst g + e)))) I L (zR1 q)) : zC G (n + 2) 166 [.ref 89, .int ei] I L (zR1 q) post := by
  subst hei
  exact zin0 rfl rfl rfl (b166_0 (k_start hg (k_oddsOf (sR_lt hg.1 (sR_first g)) he h)))
theorem k_look (hO : kCo O B P) (hFb : kFb FO FA FB FC FD) (hok : foOk F) (hin : cIn g c) (hL : kLay g I) (hfr : kFr fr 69 I) (hc : kC g c O B P I) (hF : kFo FO FA FB FC FD F I) (hk : kMk t I) (ht : t < 2 ^ 30) (h : ∀ (I' : zI) (L' : zL), (∀ e, e < 3 → I' 90 (3 * sFirst g + e) = nI (sOd g fr c F (sFirst g) e)) → kMk (t + 1) I' → (∀ o, o ≠ 89 → o ≠ 90 → o ≠ 91 → I' o = I o) → (∀ o, o ≠ 93 → L' o = L o) → post none I' L' (zR1 (some O, some FO, some 69))) : zC G (n + 40) 165 [.ref 89, .ref O, .ref FO, .ref 69] I L (zR1 q) post := by
  have hg := hL.1.1
  have hdf := sDep_first g hg
  have hr := sR_first g
  obtain ⟨k6, k1, k2⟩ := id hk
  have e6 : I 89 6 + 1 = nI (t + 1) := by rw [k6, nI_1]
  have eR : zup (zup (zup (zR1 q) 89 8 (some O)) 89 9 (some FO)) 89 10 (some 69) = zR1 (some O, some FO, some 69) := by rw [zR1_8, zR1_9, zR1_10]
  obtain ⟨I2, hI2⟩ : ∃ I2 : zI, I2 = zup I 89 6 (nI (t + 1)) := ⟨_, rfl⟩
  have a3 : ∀ o, o ≠ 89 → I2 o = I o := fun o h1 => by rw [hI2, zup_ne h1]
  have hW : meW g fr c F O B P FO FA FB FC FD (nI (t + 1)) I2 := by
    have hi := kFb_hi hFb
    have nO : O ≠ 89 ∧ B ≠ 89 ∧ P ≠ 89 := by
      rcases hO with ⟨x, y, z⟩ | ⟨x, y, z⟩ | ⟨x, y, z⟩ | ⟨x, y, z⟩ | ⟨x, y, z⟩ <;> (subst x y z; decide)
    refine ⟨kLay_of hL (fun o z1 z2 => a3 o (by omega)), ?_, kC_of hc (a3 B nO.2.1) (a3 P nO.2.2) (fun k _ => by rw [a3 O nO.1]), ?_, by rw [hI2]; exact zup_self⟩
    · unfold kFr
      rw [a3 69 (by decide)]
      exact hfr
    · unfold kFo
      rw [a3 FO (by omega), a3 FA (by omega), a3 FB (by omega), a3 FC (by omega), a3 FD (by omega)]
      exact hF
  have no : ∀ x, x < 19683 → I2 91 x ≠ nI (t + 1) := fun x hx z => by
    rw [a3 91 (by decide)] at z
    obtain ⟨j, hj, e⟩ := k1 x hx
    rw [e] at z
    have := nI_inj (by omega) (by omega) z
    omega
  refine zin0 rfl rfl rfl (b165_0 (And.intro rfl ?_))
  show zC G (n + 39) 215 [.ref 44] (zup I 89 6 (I 89 6 + 1)) L (zup (zup (zup (zR1 q) 89 8 (some O)) 89 9 (some FO)) 89 10 (some 69)) _
  rw [eR, e6, ← hI2]
  refine k_start hW.1.1 ?_
  refine me_all hO hFb hok hin (sDep g (sFirst g)) (sFirst g) (n + 39) 0 I2 L _ rfl (by omega) (by omega) hW hr (fun x hx hm => absurd hm (no x hx)) (fun I' L' r1 m1 f1 => ?_)
  refine h I' L' (r1 _ (sR_lt hg hr) m1 (Nat.le_refl _)) ⟨?_, fun x hx => ?_, fun x hx => ?_⟩ (fun o z1 z2 z3 => (f1.2.2.1 o z2 z3).trans (a3 o z1)) f1.2.2.2
  · rw [f1.2.2.1 89 (by decide) (by decide), hI2]
    exact zup_self
  · rcases f1.2.1 x with e | e
    · obtain ⟨j, hj, e2⟩ := k1 x hx
      exact ⟨j, by omega, by rw [e, a3 91 (by decide)]; exact e2⟩
    · exact ⟨t + 1, Nat.le_refl _, e⟩
  · obtain ⟨j, hj, e2⟩ := k2 x hx
    exact ⟨j, by omega, by rw [f1.2.2.1 92 (by decide) (by decide), a3 92 (by decide)]; exact e2⟩
theorem k_countShown (hFb : kFb FO FA FB FC FD) (hok : foOk F) (hL : kLay g I) (hF : kFo FO FA FB FC FD F I) (hk : kMk t I) (ht : t < 2 ^ 30) (h : ∀ I' : zI, kMk (t + 1) I' → (∀ o, o ≠ 89 → o ≠ 91 → o ≠ 92 → I' o = I o) → post (some (.int (nI (sBxc g (sShb g F))))) I' L (zR1 (q.1, some FO, q.2.2))) : zC G (n + 40) 176 [.ref 89, .ref FO] I L (zR1 q) post := by
  have hg := hL.1.1
  have hdf := sDep_first g hg
  obtain ⟨k6, k1, k2⟩ := id hk
  have e6 : I 89 6 + 1 = nI (t + 1) := by rw [k6, nI_1]
  obtain ⟨I2, hI2⟩ : ∃ I2 : zI, I2 = zup (zup I 89 6 (nI (t + 1))) 89 7 0 := ⟨_, rfl⟩
  have a3 : ∀ o, o ≠ 89 → I2 o = I o := fun o h1 => by rw [hI2, zup_ne h1, zup_ne h1]
  have a6 : I2 89 6 = nI (t + 1) := by rw [hI2, zup_eq, if_neg (by decide), zup_eq, if_pos rfl]
  have a7 : I2 89 7 = 0 := by rw [hI2, zup_eq, if_pos rfl]
  have hW : reW g F FO FA FB FC FD (nI (t + 1)) I2 := by
    have hi := kFb_hi hFb
    refine ⟨kLay_of hL (fun o z1 z2 => a3 o (by omega)), ?_, a6⟩
    unfold kFo
    rw [a3 FO (by omega), a3 FA (by omega), a3 FB (by omega), a3 FC (by omega), a3 FD (by omega)]
    exact hF
  have no : ∀ x, x < 19683 → I2 91 x ≠ nI (t + 1) := fun x hx z => by
    rw [a3 91 (by decide)] at z
    obtain ⟨j, hj, e⟩ := k1 x hx
    rw [e] at z
    have := nI_inj (by omega) (by omega) z
    omega
  have no2 : ∀ x, x < 2423 → I2 92 x ≠ nI (t + 1) := fun x hx z => by
    rw [a3 92 (by decide)] at z
    obtain ⟨j, hj, e⟩ := k2 x hx
    rw [e] at z
    have := nI_inj (by omega) (by omega) z
    omega
  have hi0 : reI g F (nI (t + 1)) I2 := by
    refine ⟨fun x hx hm => absurd hm (no x hx), fun j hj => ⟨fun hm => absurd hm (no2 j hj), fun ⟨x, x1, x2, _⟩ => absurd x2 (no x x1)⟩, ?_⟩
    have z := sCB_bd (f := fun j => decide (I2 92 j = nI (t + 1))) (b := 0) 2423 (fun x hx hm => absurd (of_decide_eq_true hm) (no2 x hx))
    rw [Nat.le_zero.mp z, a7]
    rfl
  refine zin0 rfl rfl rfl (b176_0 (And.intro rfl ?_))
  show zC G (n + 39) 215 [.ref 44] (zup (zup I 89 6 (I 89 6 + 1)) 89 7 0) L (zup (zR1 q) 89 9 (some FO)) _
  rw [zR1_9, e6, ← hI2]
  refine k_start hW.1.1 ?_
  refine re_all hFb hok (sDep g (sFirst g)) (sFirst g) (n + 39) 0 I2 _ rfl (by omega) (by omega) hW (sSh_first g F) hi0 (fun x hx hm => absurd hm (no x hx)) (fun I' r1 n1 m1 f1 => ?_)
  have all : ∀ p, sSh g F p → I' 91 p = nI (t + 1) := fun p hs => by
    refine (hs (fun x => sSh g F x ∧ I' 91 x = nI (t + 1)) ⟨sSh_first g F, m1⟩ fun x m hx hw hc => ⟨sSh_step hx.1 hw hc, ?_⟩).2
    have x19 := sR_lt hg (sSh_R hx.1)
    by_cases c : sDep g x ≤ sDep g (sFirst g)
    · exact n1 x x19 hx.2 c hw m hc
    · exact absurd ((f1.1 x (by omega)).symm.trans hx.2) (no x x19)
  have ec : sCB (fun j => decide (I' 92 j = nI (t + 1))) 2423 = sBxc g (sShb g F) := sBxc_slots hg (fun p hp => sSh_R (sShb_R hp)) (fun j hj => by
    rw [decide_eq_true_iff, r1.2.1 j hj]
    constructor
    · rintro ⟨p, p1, p2, p3⟩
      exact ⟨p, sShb_t (r1.1 p p1 p2), p3⟩
    · rintro ⟨p, p1, p3⟩
      exact ⟨p, sR_lt hg (sSh_R (sShb_R p1)), all p (sShb_R p1), p3⟩)
  have hh := h I' ⟨by rw [f1.2.2.2.2 6 (by decide)]; exact a6, fun x hx => ?_, fun x hx => ?_⟩ (fun o z1 z2 z3 => (f1.2.2.2.1 o z1 z2 z3).trans (a3 o z1))
  · rw [← ec, ← r1.2.2] at hh
    exact hh
  · rcases f1.2.1 x with e | e
    · obtain ⟨j, hj, e2⟩ := k1 x hx
      exact ⟨j, by omega, by rw [e, a3 91 (by decide)]; exact e2⟩
    · exact ⟨t + 1, Nat.le_refl _, e⟩
  · rcases f1.2.2.1 x with e | e
    · obtain ⟨j, hj, e2⟩ := k2 x hx
      exact ⟨j, by omega, by rw [e, a3 92 (by decide)]; exact e2⟩
    · exact ⟨t + 1, Nat.le_refl _, e⟩
end
