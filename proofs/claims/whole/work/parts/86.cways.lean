-- ===== the class: picking, way by way =====
/-- what is led, what was chosen, what follows it, the chance -/
abbrev zyw : Type := List Nat × List Nat × List (Option Nat) × Nat
def yBh (w : Nat → Nat) : Nat → Nat → Option Nat
  | 0, _ => none
  | j + 1, i => if 0 < w i then some i else yBh w j (i + 1)
def yNx (w : Nat → Nat) (many k : Nat) : Option Nat := yBh w (many - (k + 1)) (k + 1)
def yFi (ks cs : List Nat) (w : Nat → Nat) (many : Nat) : Nat := match ks[cs.length]? with
  | some k => k
  | none => (yBh w many 0).getD 0
def pfW (s : sC × zyw) (w : Nat → Nat) (many : Nat) : Nat × (sC × zyw) := (yFi s.2.1 s.2.2.1 w many, (s.1, (s.2.1, s.2.2.1 ++ [yFi s.2.1 s.2.2.1 w many], s.2.2.2.1 ++ [yNx w many (yFi s.2.1 s.2.2.1 w many)], s.2.2.2.2 * w (yFi s.2.1 s.2.2.1 w many) / sSum w many)))
def vW (s : sC × zyw) (w : Nat → Nat) (many : Nat) : Prop := s.2.2.1.length < 128 ∧ s.2.2.2.1.length = s.2.2.1.length ∧ (∀ k, s.2.1[s.2.2.1.length]? = some k → k < many ∧ 0 < w k) ∧ s.2.2.2.2 ≤ 1000000000
def tWp (t : zyw) (I : zI) (L : zL) : Prop := I 79 13 = nI t.2.1.length ∧ I 79 14 = nI t.1.length ∧ t.1.length ≤ 128 ∧ (∀ j k, t.1[j]? = some k → I 86 j = nI k) ∧ (∀ j k, t.2.1[j]? = some k → I 86 j = nI k) ∧ (∀ j f, t.2.2.1[j]? = some f → I 87 j = zon f ∧ ∀ k, f = some k → k < 1000) ∧ L 79 15 = lN t.2.2.2
theorem tWp_st : kTst tWp := fun t I L I' L' h h13 h14 h86 h87 h15 => by
  unfold tWp
  rw [h13, h14, h86, h87, h15]
  exact h
theorem yBh_some {w : Nat → Nat} : ∀ j i k, yBh w j i = some k → i ≤ k ∧ k < i + j ∧ 0 < w k
  | 0, _, _, h => by cases h
  | j + 1, i, k, h => by
    rw [yBh] at h
    by_cases c : 0 < w i
    · rw [if_pos c] at h
      injection h with h
      subst h
      exact ⟨Nat.le_refl _, by omega, c⟩
    · rw [if_neg c] at h
      obtain ⟨a, b, d⟩ := yBh_some j (i + 1) k h
      exact ⟨by omega, by omega, d⟩
theorem yBh_ex {w : Nat → Nat} : ∀ j i k, i ≤ k → k < i + j → 0 < w k → ∃ m, yBh w j i = some m
  | 0, i, k, h1, h2, _ => by omega
  | j + 1, i, k, h1, h2, h3 => by
    rw [yBh]
    by_cases c : 0 < w i
    · exact ⟨i, if_pos c⟩
    · rw [if_neg c]
      have : k ≠ i := fun z => c (z ▸ h3)
      exact yBh_ex j (i + 1) k (by omega) (by omega) h3
theorem sSum_ex {w : Nat → Nat} : ∀ m, 0 < sSum w m → ∃ k, k < m ∧ 0 < w k
  | 0, h => absurd h (Nat.lt_irrefl _)
  | m + 1, h => by
    by_cases c : 0 < w m
    · exact ⟨m, Nat.lt_succ_self m, c⟩
    · have h : 0 < sSum w m + w m := h
      obtain ⟨k, a, b⟩ := sSum_ex (w := w) m (by omega)
      exact ⟨k, by omega, b⟩
theorem yFi_ok {ks cs : List Nat} {w : Nat → Nat} {many : Nat} (h0 : 0 < sSum w many) (hv : ∀ k, ks[cs.length]? = some k → k < many ∧ 0 < w k) : yFi ks cs w many < many ∧ 0 < w (yFi ks cs w many) := by
  unfold yFi
  cases e : ks[cs.length]? with
  | some k => exact hv k e
  | none =>
    obtain ⟨k, a, b⟩ := sSum_ex many h0
    obtain ⟨m, hm⟩ := yBh_ex (w := w) many 0 k (Nat.zero_le _) (by omega) b
    obtain ⟨x, y, z⟩ := yBh_some _ _ _ hm
    show (yBh w many 0).getD 0 < many ∧ 0 < w ((yBh w many 0).getD 0)
    rw [hm]
    exact ⟨by show m < many; omega, z⟩
theorem pfW_ok : kPf vW pfW := fun s w many h hv => ⟨(yFi_ok h hv.2.2.1).1, (yFi_ok h hv.2.2.1).2, s.1.2.2.2.2, rfl⟩
section
variable {G : zG} {n : Nat} {I : zI} {L : zL} {R : zR} {q : zq} {post : zPo} {g : zg}
theorem k_behind {w : Nat → Nat} {aW mW many i : Nat} {x : Int32} (hA : kAr aW mW) (hm : many ≤ mW) (hmW : mW < 1000) (hw : ∀ k, k < many → I aW k = nI (w k)) (hwb : ∀ k, k < many → w k ≤ 20000) (hi : i ≤ many) (hx : x + 1 = nI i) (h : post (some (.int (zon (yBh w (many - i) i)))) I L R) : zC G (n + 1) 254 [.ref aW, .int (nI many), .int x] I L R post := by
  obtain ⟨hz, hk⟩ := hA
  have key : ∀ j i, i + j = many → post (some (.int (zon (yBh w j i)))) I L R → zQ G 254 n post 4 [some (.ref aW), some (.int (nI many)), some (.int x), some (.int (nI i))] [] I L R := by
    intro j
    induction j with
    | zero =>
      intro i hi h
      have h : post (some (.int (-1))) I L R := h
      exact b254_4 (pk_le many i (fun _ => b254_33 h) (fun z => absurd z (by omega)) rfl rfl (by omega) (by omega))
    | succ j ih =>
      intro i hi h
      have hcl : (nI i).toNatClampNeg = i := nI_clamp (by omega)
      have hwi := hwb i (by omega)
      rw [yBh] at h
      refine b254_4 (pk_le many i (fun z => absurd z (by omega)) (fun _ => And.intro (fun z => absurd z (nI_pos (by omega))) (fun _ => zck_t hz (zan_t hk (pk_le mW i (fun z => absurd z (by omega)) (fun _ => zck_t hz (zai_t hk (And.intro (vp_in_nI (by omega) (by omega)) ?_))) rfl rfl (by omega) (by omega))))) rfl rfl (by omega) (by omega))
      rw [hcl, hw i (by omega)]
      refine pk_le (w i) 0 (fun z => b254_27 ?_) (fun z => ?_) rfl rfl (by omega) (by omega)
      · rw [if_neg (by omega)] at h
        have qq := ih (i + 1) (by omega) h
        rw [← nI_1] at qq
        exact qq
      · rw [if_pos (by omega)] at h
        exact h
  have kk := key (many - i) i (by omega) h
  rw [← hx] at kk
  exact zin0 rfl rfl rfl (b254_0 kk)
set_option maxHeartbeats 1500000 in
theorem k_pickW : kPK (τ := zyw) G n 79 g 65 66 67 q tWp vW pfW := by
  intro s w many aW mW I L post hc ht hA hm hmW hw hwb h0 hs hv h
  obtain ⟨c0, ks, cs, fs, ch⟩ := s
  obtain ⟨t1, t2, t3, t4, t5, t6, t7⟩ := ht
  obtain ⟨v1, v2, v3, v4⟩ := hv
  have t1 : I 79 13 = nI cs.length := t1
  have t2 : I 79 14 = nI ks.length := t2
  have t3 : ks.length ≤ 128 := t3
  have t4 : ∀ j k, ks[j]? = some k → I 86 j = nI k := t4
  have t5 : ∀ j k, cs[j]? = some k → I 86 j = nI k := t5
  have t6 : ∀ j f, fs[j]? = some f → I 87 j = zon f ∧ ∀ k, f = some k → k < 1000 := t6
  have t7 : L 79 15 = lN ch := t7
  have v1 : cs.length < 128 := v1
  have v2 : fs.length = cs.length := v2
  have v4 : ch ≤ 1000000000 := v4
  have v3 : ∀ k, ks[cs.length]? = some k → k < many ∧ 0 < w k := v3
  have ok := yFi_ok h0 v3
  have eF : ∀ e : ks[cs.length]? = none, yFi ks cs w many = (yBh w many 0).getD 0 := fun e => by unfold yFi; rw [e]
  have eS : ∀ k, ks[cs.length]? = some k → yFi ks cs w many = k := fun k e => by unfold yFi; rw [e]
  have h : ∀ (I' : zI) (L' : zL), kC g c0 65 66 67 I' → tWp (ks, cs ++ [yFi ks cs w many], fs ++ [yNx w many (yFi ks cs w many)], ch * w (yFi ks cs w many) / sSum w many) I' L' → zFr (tPik 65) I I' → lPk L L' → post (some (.int (nI (yFi ks cs w many)))) I' L' (zR1 q) := h
  obtain ⟨d, hd⟩ : ∃ d, d = cs.length := ⟨_, rfl⟩
  obtain ⟨k, hkk⟩ : ∃ k, k = yFi ks cs w many := ⟨_, rfl⟩
  rw [← hkk] at h ok eF
  have n86 : aW ≠ 86 := fun z => by
    subst z
    have : (128 : Nat) = mW := by
      have e := hA.2
      have e2 : zk 86 = .inl (.int, 128) := rfl
      rw [e2] at e
      injection e with e
      injection e
    omega
  have n87 : aW ≠ 87 := fun z => by
    subst z
    have : (128 : Nat) = mW := by
      have e := hA.2
      have e2 : zk 87 = .inl (.int, 128) := rfl
      rw [e2] at e
      injection e with e
      injection e
    omega
  have n79 : aW ≠ 79 := fun z => by
    subst z
    cases hA.2
  have hcd : (nI d).toNatClampNeg = d := nI_clamp (by omega)
  have hck : (nI k).toNatClampNeg = k := nI_clamp (by omega)
  have vd : vp_in (nI d) 128 := vp_in_nI (by omega) (by decide)
  have hsl : w k ≤ sSum w many := sSum_ge (f := w) many ok.1
  have hprod : ch * w k ≤ 1000000000 * 20000 := Nat.mul_le_mul v4 (hwb k ok.1)
  have at60 : ∀ (J : zI) (x6 : Option Value), J 86 d = nI k → (∀ o, o ≠ 86 → J o = zup I 79 13 (nI (d + 1)) o) → (∀ j, j ≠ d → J 86 j = I 86 j) → zQ G 253 (n + 1) post 60 [some (.ref 79), some (.ref 65), some (.ref aW), some (.int (nI many)), some (.int (nI (sSum w many))), some (.int (nI d)), x6] [] J L (zR1 q) := by
    intro J x6 j1 j2 j3
    obtain ⟨J2, hJ2⟩ : ∃ J2 : zI, J2 = zup J 87 d (zon (yBh w (many - (k + 1)) (k + 1))) := ⟨_, rfl⟩
    have wJ : ∀ i, i < many → J aW i = nI (w i) := fun i hi => by rw [j2 aW n86, zup_ne n79]; exact hw i hi
    have wJ2 : J2 aW k = nI (w k) := by rw [hJ2, zup_ne n87]; exact wJ k ok.1
    have o2 : ∀ o, o ≠ 86 → o ≠ 87 → o ≠ 79 → J2 o = I o := fun o z1 z2 z3 => by rw [hJ2, zup_ne z2, j2 o z1, zup_ne z3]
    have hh := h J2 (zup L 79 15 (lN (ch * w k / sSum w many))) (kC_of hc (o2 66 (by decide) (by decide) (by decide)) (o2 67 (by decide) (by decide) (by decide)) (fun k _ => by rw [o2 65 (by decide) (by decide) (by decide)])) ⟨?_, ?_, t3, ?_, ?_, ?_, zup_self⟩ (fun o j z => ?_) (fun o j z => ?_)
    · have at114 : ∀ v : Int64, v = lN (ch * w k / sSum w many) → zQ G 253 (n + 1) post 114 [some (.ref 79), some (.ref 65), some (.ref aW), some (.int (nI many)), some (.int (nI (sSum w many))), some (.int (nI d)), some (.int (nI k))] [.long v, .ref 79] J2 L (zR1 q) := fun v hv => by
        subst hv
        exact b253_114 hh
      refine b253_60 (And.intro vd ?_)
      rw [hcd, j1]
      refine k_behind (w := w) (i := k + 1) hA hm (by omega) wJ hwb (by omega) (nI_1 k) ?_
      refine And.intro vd ?_
      rw [hcd, ← hJ2]
      refine And.intro (fun z => absurd z (nI_pos (by omega))) (fun _ => zck_t hA.1 (zan_t hA.2 (pk_le mW k (fun z => absurd z (by omega)) (fun _ => zck_t hA.1 (zai_t hA.2 (And.intro (vp_in_nI (by omega) (by omega)) ?_))) rfl rfl (by omega) (by omega))))
      refine And.intro ?_ (at114 _ ?_)
      · show ¬ (nI (sSum w many)).toInt64 = 0
        rw [nI_l (by omega)]
        exact fun w2 => absurd ((pk_lEQ (b := 0) (by omega) (by omega)).mp w2) (by omega)
      · rw [hck, wJ2, t7, nI_l (by omega), nI_l (by omega), lN_mul, pk_lDiv (by omega) h0 (by omega)]
    · show J2 79 13 = nI (cs ++ [k]).length
      rw [hJ2, zup_ne (by decide), j2 79 (by decide), zup_self, snoc_len, hd]
    · show J2 79 14 = nI ks.length
      rw [hJ2, zup_ne (by decide), j2 79 (by decide), zup_k (by decide)]
      exact t2
    · intro j k' hj
      have hj : ks[j]? = some k' := hj
      rw [hJ2, zup_ne (by decide)]
      by_cases c : j = d
      · subst c
        rw [j1, hkk, eS k' (hd ▸ hj)]
      · rw [j3 j c]
        exact t4 j k' hj
    · intro j k' hj
      have hj : (cs ++ [k])[j]? = some k' := hj
      rw [hJ2, zup_ne (by decide)]
      by_cases c : j = d
      · subst c
        rw [hd, List.getElem?_append_right (Nat.le_refl _), Nat.sub_self] at hj
        injection hj with hj
        rw [j1, hj]
      · have hj2 : j < cs.length := by
          have := (List.getElem?_eq_some_iff.mp hj).1
          rw [snoc_len] at this
          omega
        rw [List.getElem?_append_left hj2] at hj
        rw [j3 j c]
        exact t5 j k' hj
    · intro j f hj
      have hj : (fs ++ [yNx w many k])[j]? = some f := hj
      rw [hJ2, zup_eq]
      by_cases c : j = d
      · rw [if_pos c]
        rw [c, hd, ← v2, List.getElem?_append_right (Nat.le_refl _), Nat.sub_self] at hj
        injection hj with hj
        rw [← hj]
        refine ⟨rfl, fun k' hk' => ?_⟩
        obtain ⟨-, y2, -⟩ := yBh_some _ _ _ hk'
        omega
      · have hj2 : j < fs.length := by
          have := (List.getElem?_eq_some_iff.mp hj).1
          rw [snoc_len] at this
          omega
        rw [List.getElem?_append_left hj2] at hj
        rw [if_neg c, j2 87 (by decide), zup_ne (by decide)]
        exact t6 j f hj
    · unfold tPik at z
      simp only [Bool.or_eq_false_iff] at z
      by_cases c1 : o = 87
      · subst c1; cases z.2
      by_cases c2 : o = 86
      · subst c2; cases z.1.2
      by_cases c3 : o = 79
      · subst c3
        by_cases c4 : j = 13
        · subst c4; cases z.1.1.2
        · rw [hJ2, zup_ne c1, j2 79 c2, zup_k c4]
      · rw [o2 o c2 c1 c3]
    · by_cases c3 : o = 79
      · subst c3
        exact zup_k (fun w => z ⟨rfl, w⟩)
      · rw [zup_ne c3]
  -- choosing
  have e13 : I 79 13 + 1 = nI (d + 1) := by rw [t1, ← hd, nI_1]
  have fresh : ks[cs.length]? = none → ∀ x6 : Option Value, zQ G 253 (n + 1) post 60 [some (.ref 79), some (.ref 65), some (.ref aW), some (.int (nI many)), some (.int (nI (sSum w many))), some (.int (nI d)), x6] [] (zup (zup I 79 13 (nI (d + 1))) 86 d (zon (yBh w many 0))) L (zR1 q) := fun e x6 => by
    obtain ⟨k1, a1, b1⟩ := sSum_ex many h0
    obtain ⟨m, hm2⟩ := yBh_ex (w := w) many 0 k1 (Nat.zero_le _) (by omega) b1
    have e2 := eF e
    rw [hm2] at e2 ⊢
    have e2 : k = m := e2
    subst e2
    exact at60 _ x6 (by rw [zup_self]; rfl) (fun o z => zup_ne z) (fun j z => by rw [zup_k z, zup_ne (by decide)])
  have led : ∀ k', ks[cs.length]? = some k' → ∀ x6 : Option Value, zQ G 253 (n + 1) post 60 [some (.ref 79), some (.ref 65), some (.ref aW), some (.int (nI many)), some (.int (nI (sSum w many))), some (.int (nI d)), x6] [] (zup I 79 13 (nI (d + 1))) L (zR1 q) := fun k' e x6 => by
    refine at60 _ x6 ?_ (fun o z => rfl) (fun j z => by rw [zup_ne (by decide)])
    rw [zup_ne (by decide), hkk, eS k' e, hd]
    exact t4 _ _ e
  have t2' : (zup I 79 13 (nI (d + 1))) 79 14 = nI ks.length := by rw [zup_k (by decide)]; exact t2
  have at28 : zQ G 253 (n + 1) post 28 [some (.ref 79), some (.ref 65), some (.ref aW), some (.int (nI many)), some (.int (nI (sSum w many))), some (.int (nI d)), none] [] I L (zR1 q) := by
    rw [← e13] at led fresh t2'
    have wI : ∀ i, i < many → (zup I 79 13 (I 79 13 + 1)) aW i = nI (w i) := fun i hi => by rw [zup_ne n79]; exact hw i hi
    refine b253_28 (And.intro rfl ?_)
    refine pk_lt d ks.length (fun z => ?_) (fun z => ?_) rfl t2' (by omega) (by omega)
    · exact led ks[d] (by rw [← hd]; exact List.getElem?_eq_getElem z) none
    · refine k_behind (w := w) (i := 0) hA hm (by omega) wI hwb (Nat.zero_le _) rfl (And.intro vd ?_)
      rw [hcd]
      exact fresh (List.getElem?_eq_none (by omega)) none
  have e5 : I 79 13 = nI d := by rw [t1, hd]
  have pre : ∀ x : Int32, x = nI d → (zQ G 253 (n + 1) post 28 [some (.ref 79), some (.ref 65), some (.ref aW), some (.int (nI many)), some (.int (nI (sSum w many))), some (.int x), none] [] I L (zR1 q)) := fun x hx => by
    subst hx
    exact at28
  have n0 : ¬ I 79 13 < 0 := by rw [e5]; exact nI_pos (by omega)
  refine zin0 rfl rfl rfl (b253_0 (And.intro (fun z => absurd z n0) (fun _ => pk_le 128 d (fun z => absurd z (by omega)) (fun _ => And.intro (fun _ => pre _ e5) (fun z => absurd ((nI_ltI (a := 0) (by omega) (by omega)).mpr h0) z)) rfl e5 (by omega) (by omega))))
end
