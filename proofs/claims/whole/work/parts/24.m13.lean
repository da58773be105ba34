-- ===== the reference: taking back =====
section
variable {G : zG} {n : Nat} {I : zI} {L : zL} {q : zq} {post : zPo} {g : zg} {c : sC} {w : uW}
theorem takeBack_go {es : List (Nat × Nat)} (k : Nat) : ∀ (fs : List (Nat × Nat)) (I : zI) (c : sC), fs.length = k → mU (some (es ++ fs)) I → mC c I → (∀ e, e ∈ fs → uV e) → (es ++ fs).length ≤ 20000 → (∀ I' : zI, mU (some es) I' → mC (fs.foldr uU c) I' → zFr tC I I' → post none I' L (zR1 q)) → zQ G 34 n post 0 [some (.ref 0), some (.int (nI es.length)), none] [] I L (zR1 q) := by
  induction k with
  | zero =>
    intro fs I c hk hu hc hv hl h
    have e0 : fs = [] := List.length_eq_zero_iff.mp hk
    subst e0
    rw [List.append_nil] at hu hl
    refine b34_0 (pk_le es.length es.length (fun _ => b34_116 (h I hu hc (zFr_0 _ _))) (fun z => absurd z (by omega)) hu.2.1 rfl (by omega) (by omega))
  | succ k ih =>
    intro fs I c hk hu hc hv hl h
    obtain ⟨fs', e, rfl⟩ : ∃ fs' e, fs = fs' ++ [e] := by
      rcases List.eq_nil_or_concat fs with z | ⟨fs', e, z⟩
      · rw [z] at hk
        cases hk
      · exact ⟨fs', e, by rw [z, List.concat_eq_append]⟩
    have hve := hv e (List.mem_append_right _ (List.mem_singleton.mpr rfl))
    have hkl : fs'.length = k := by
      rw [List.length_append] at hk
      have e1 : [e].length = 1 := rfl
      omega
    have hlen : (es ++ (fs' ++ [e])).length = (es ++ fs').length + 1 := by rw [← List.append_assoc, List.length_append]; rfl
    have hle : es.length ≤ (es ++ fs').length := by rw [List.length_append]; omega
    obtain ⟨hu1, hu2, hu3⟩ := hu
    have hN : (es ++ fs').length < 20000 := by omega
    have hat := hu3 (es ++ fs').length e (by rw [← List.append_assoc, List.getElem?_append_right (Nat.le_refl _), Nat.sub_self]; rfl)
    have back : ∀ (J : zI), J 0 35 = I 0 35 → J 0 36 = nI (es ++ fs').length → J 18 = I 18 → J 19 = I 19 → mC (uU e c) J → zFr tC I J → zQ G 34 n post 113 [some (.ref 0), some (.int (nI es.length)), some (.int (nI e.1))] [] J L (zR1 q) := by
      intro J j35 j36 j18 j19 jc jf
      refine b34_113 (zP_lv (by exact ⟨rfl, rfl, trivial⟩) (ih fs' J (uU e c) hkl ⟨j35.trans hu1, j36, fun i x hx => ?_⟩ jc (fun x hx => hv x (List.mem_append_left _ hx)) (by omega) (fun I' a1 a2 a3 => h I' a1 ?_ (zFr_tr jf a3))))
      · rw [j18, j19]
        refine hu3 i x ?_
        rw [← List.append_assoc, List.getElem?_append_left (List.getElem?_eq_some_iff.mp hx).1]
        exact hx
      · rw [List.foldr_append]
        exact a2
    have e36 : I 0 36 - 1 = nI (es ++ fs').length := by
      rw [hu2, hlen]
      exact pk_sub (b := 1) (Nat.le_add_left 1 _)
    have eN : (I 0 36 - 1).toNatClampNeg = (es ++ fs').length := by rw [e36, nI_clamp (by omega)]
    have inb : vp_in (I 0 36 - 1) 20000 := by rw [e36]; exact vp_in_nI hN (by decide)
    obtain ⟨v1, v2, v3⟩ := hve
    refine b34_0 (pk_le (es ++ (fs' ++ [e])).length es.length (fun z => absurd z (by omega)) (fun _ => ?_) hu2 rfl (by omega) (by omega))
    refine And.intro rfl (And.intro inb ?_)
    have el : I 18 (I 0 36 - 1).toNatClampNeg = nI e.1 := by rw [eN]; exact hat.1
    have ew : I 19 (I 0 36 - 1).toNatClampNeg = nI e.2 := by rw [eN]; exact hat.2
    have a0 : zFr tC I (zup I 0 36 (I 0 36 - 1)) := zFr_up (zFr_0 _ _) rfl
    have a36 : zup I 0 36 (I 0 36 - 1) 0 36 = nI (es ++ fs').length := by rw [zup_self, e36]
    have ac : mC c (zup I 0 36 (I 0 36 - 1)) := mC_of hc (zup_ne (by decide)) (zup_ne (by decide)) rfl rfl rfl
    refine (fun z : _ ∧ _ => And.intro z.2 z.1) (pk_eq e.1 177147 (fun z => ?_) (fun z => b34_50 ?_) el rfl (by omega) (by omega))
    · refine And.intro inb ?_
      refine zP_lv (lv' := [some (.ref 0), some (.int (nI es.length)), some (.int (nI e.1))]) (by exact ⟨rfl, rfl, by rw [← el]; rfl, trivial⟩) ?_
      show zQ G 34 n post 113 _ [] (zup (zup I 0 36 (I 0 36 - 1)) 0 14 (I 19 (I 0 36 - 1).toNatClampNeg)) L (zR1 q)
      rw [ew]
      refine back _ rfl (by rw [← a36]; rfl) (by rw [zup_ne (by decide), zup_ne (by decide)]) (by rw [zup_ne (by decide), zup_ne (by decide)]) ?_ (zFr_up a0 rfl)
      unfold uU
      rw [if_pos z]
      exact ⟨by rw [zup_ne (by decide)]; exact ac.1, by rw [zup_ne (by decide)]; exact ac.2.1, zup_self, ac.2.2.2.1, ac.2.2.2.2⟩
    · refine (fun z : _ ∧ _ => And.intro z.2 z.1) (pk_eq e.1 177148 (fun z2 => ?_) (fun z2 => b34_73 ?_) el rfl (by omega) (by omega))
      · refine And.intro inb ?_
        refine zP_lv (lv' := [some (.ref 0), some (.int (nI es.length)), some (.int (nI e.1))]) (by exact ⟨rfl, rfl, by rw [← el]; rfl, trivial⟩) ?_
        show zQ G 34 n post 113 _ [] (zup (zup I 0 36 (I 0 36 - 1)) 0 15 (I 19 (I 0 36 - 1).toNatClampNeg)) L (zR1 q)
        rw [ew]
        refine back _ rfl (by rw [← a36]; rfl) (by rw [zup_ne (by decide), zup_ne (by decide)]) (by rw [zup_ne (by decide), zup_ne (by decide)]) ?_ (zFr_up a0 rfl)
        unfold uU
        rw [if_neg z, if_pos z2]
        exact ⟨by rw [zup_ne (by decide)]; exact ac.1, by rw [zup_ne (by decide)]; exact ac.2.1, ac.2.2.1, zup_self, ac.2.2.2.2⟩
      · refine (fun z : _ ∧ _ => And.intro z.2 z.1) (pk_eq e.1 177149 (fun z3 => ?_) (fun z3 => b34_98 ?_) el rfl (by omega) (by omega))
        · have h2 := v3 z3
          refine And.intro inb (And.intro ?_ ?_)
          · show vp_in (I 19 (I 0 36 - 1).toNatClampNeg) 19683
            rw [ew]
            exact vp_in_nI h2 (by decide)
          · refine zP_lv (lv' := [some (.ref 0), some (.int (nI es.length)), some (.int (nI e.1))]) (by exact ⟨rfl, rfl, by rw [← el]; rfl, trivial⟩) ?_
            show zQ G 34 n post 113 _ [] (zup (zup I 0 36 (I 0 36 - 1)) 4 (I 19 (I 0 36 - 1).toNatClampNeg).toNatClampNeg (vp_nar .boolean 0)) L (zR1 q)
            rw [ew, nI_clamp v2, show vp_nar .boolean 0 = 0 by decide]
            refine back _ rfl (by rw [← a36]; rfl) (by rw [zup_ne (by decide), zup_ne (by decide)]) (by rw [zup_ne (by decide), zup_ne (by decide)]) ?_ (zFr_up a0 rfl)
            unfold uU
            rw [if_neg z, if_neg z2, if_pos z3]
            refine ⟨by rw [zup_ne (by decide)]; exact ac.1, fun j hj => ?_, ac.2.2⟩
            rw [zup_eq]
            show _ = zbo (fup c.2.1 e.2 false j)
            unfold fup
            by_cases d : j = e.2
            · rw [if_pos d, if_pos d]; rfl
            · rw [if_neg d, if_neg d]
              exact ac.2.1 j hj
        · have h1 : e.1 < 177147 := by omega
          refine And.intro inb (And.intro ?_ ?_)
          · show vp_in (I 18 (I 0 36 - 1).toNatClampNeg) 177147
            rw [el]
            exact vp_in_nI h1 (by decide)
          · refine zP_lv (lv' := [some (.ref 0), some (.int (nI es.length)), some (.int (nI e.1))]) (by exact ⟨rfl, rfl, by rw [← el]; rfl, trivial⟩) ?_
            show zQ G 34 n post 113 _ [] (zup (zup I 0 36 (I 0 36 - 1)) 5 (I 18 (I 0 36 - 1).toNatClampNeg).toNatClampNeg (I 19 (I 0 36 - 1).toNatClampNeg)) L (zR1 q)
            rw [el, ew, nI_clamp (by omega)]
            refine back _ rfl (by rw [← a36]; rfl) (by rw [zup_ne (by decide), zup_ne (by decide)]) (by rw [zup_ne (by decide), zup_ne (by decide)]) ?_ (zFr_up a0 rfl)
            unfold uU
            rw [if_neg z, if_neg z2, if_neg z3]
            refine ⟨fun j hj => ?_, by rw [zup_ne (by decide)]; exact ac.2.1, ac.2.2⟩
            rw [zup_eq]
            show _ = nI (fup c.1 e.1 e.2 j)
            unfold fup
            by_cases d : j = e.1
            · rw [if_pos d, if_pos d]
            · rw [if_neg d, if_neg d]
              exact ac.1 j hj
theorem c_takeBack {es fs : List (Nat × Nat)} (hu : mU (some (es ++ fs)) I) (hc : mC c I) (hv : ∀ e, e ∈ fs → uV e) (hl : (es ++ fs).length ≤ 20000) (h : ∀ I' : zI, mU (some es) I' → mC (fs.foldr uU c) I' → zFr tC I I' → post none I' L (zR1 q)) : zC G (n + 1) 34 [.ref 0, .int (nI es.length)] I L (zR1 q) post := zin0 rfl rfl rfl (takeBack_go _ fs I c rfl hu hc hv hl h)
end
