-- ===== the class: boxes met, boxes given back, the next way =====
/-- the boxes touched, by their slots -/
def kTo (g : zg) (bs : List Nat) (I : zI) : Prop := I 79 17 = nI bs.length ∧ bs.length ≤ 64 ∧ ∀ j b, bs[j]? = some b → sB g b = true ∧ I 88 j = nI (sl g b)
theorem getElem_snoc {α : Type} {l : List α} {a x : α} {j : Nat} (h : (l ++ [a])[j]? = some x) : (j = l.length ∧ x = a) ∨ (j < l.length ∧ l[j]? = some x) := by
  by_cases c : j = l.length
  · subst c
    rw [List.getElem?_append_right (Nat.le_refl _), Nat.sub_self] at h
    injection h with h
    exact .inl ⟨rfl, h.symm⟩
  · have hj2 : j < l.length := by
      have := (List.getElem?_eq_some_iff.mp h).1
      rw [snoc_len] at this
      omega
    rw [List.getElem?_append_left hj2] at h
    exact .inr ⟨hj2, h⟩
section
variable {G : zG} {n : Nat} {I : zI} {L : zL} {R : zR} {q : zq} {post : zPo} {g : zg} {c : sC}
theorem k_boxesMet {ds : List (Nat × Nat)} {em : Option Nat} (hg : gOk g) (hd : kDn g 79 81 82 ds I) (hs : kSk g 79 em I) (h20 : ds.length ≤ 20) (h : post (some (.int (nI (mBx ds em).length))) I L R) : zC G (n + 1) 155 [.ref 79] I L R post := by
  have el : (mBx ds em).length = ds.length + em.toList.length := by
    unfold mBx
    rw [List.length_append, List.length_map]
  rw [el] at h
  cases em with
  | none =>
    have lt : I 79 7 < 0 := by rw [show I 79 7 = -1 from hs]; decide
    have h : post (some (.int (nI ds.length))) I L R := h
    rw [← hd.1] at h
    exact zin0 rfl rfl rfl (b155_0 (And.intro (fun _ => b155_16 (b155_20 h)) (fun z => absurd lt z)))
  | some b =>
    obtain ⟨p, j7, j8, -⟩ := hs
    have h19 := sR_lt hg j8
    have lt : ¬ I 79 7 < 0 := by rw [j7]; exact nI_pos (by omega)
    have h : post (some (.int (nI (ds.length + 1)))) I L R := h
    rw [← nI_1, ← hd.1] at h
    exact zin0 rfl rfl rfl (b155_0 (And.intro (fun z => absurd z lt) (fun _ => b155_20 h)))
theorem k_slotMet {ds : List (Nat × Nat)} {em : Option Nat} {i b : Nat} (hL : kLay g I) (hd : kDn g 79 81 82 ds I) (hs : kSk g 79 em I) (h20 : ds.length ≤ 20) (hi : (mBx ds em)[i]? = some b) (h : post (some (.int (nI (sl g b)))) I L (zR1 q)) : zC G (n + 2) 156 [.ref 79, .int (nI i)] I L (zR1 q) post := by
  by_cases c : i < ds.length
  · have e1 : (mBx ds em)[i]? = some (ds[i]).1 := by
      unfold mBx
      rw [List.getElem?_append_left (by rw [List.length_map]; exact c), List.getElem?_map, List.getElem?_eq_getElem c]
      rfl
    rw [e1] at hi
    injection hi with hi
    obtain ⟨p, q1, q2, q3, q4, q5⟩ := hd.2 i ds[i] (List.getElem?_eq_getElem c)
    have at38 : ∀ x : Int32, x = nI p → zQ G 156 (n + 1) post 38 [some (.ref 79), some (.int (nI i))] [.int x, .ref 51] I L (zR1 q) := fun x hx => by
      subst hx
      refine b156_38 (k_slotP hL q2 q3 ?_)
      rw [q4, hi]
      exact h
    have dec : ∀ x : Int32, x = nI ds.length → ¬ x ≤ nI i := fun x hx z => by
      subst hx
      have := (nI_leI (by omega) (by omega)).mp z
      omega
    have d1 := dec _ hd.1
    refine zin0 rfl rfl rfl (b156_0 (And.intro (fun z => absurd z (nI_pos (by omega))) (fun _ => And.intro (fun z => absurd z d1) (fun _ => pk_le 20 i (fun z => absurd z (by omega)) (fun _ => And.intro (vp_in_nI (by omega) (by decide)) (at38 _ ?_)) rfl rfl (by omega) (by omega)))))
    rw [nI_clamp (by omega)]
    exact q1
  · unfold mBx at hi
    rw [List.getElem?_append_right (by rw [List.length_map]; omega), List.length_map] at hi
    cases em with
    | none => cases hi
    | some b' =>
      obtain ⟨p, j7, j8, j9, j10⟩ := hs
      have ei : i = ds.length := by
        have := (List.getElem?_eq_some_iff.mp hi).1
        have : i - ds.length < 1 := this
        omega
      subst ei
      rw [Nat.sub_self] at hi
      injection hi with hi
      have at38 : ∀ x : Int32, x = nI p → zQ G 156 (n + 1) post 38 [some (.ref 79), some (.int (nI ds.length))] [.int x, .ref 51] I L (zR1 q) := fun x hx => by
        subst hx
        refine b156_38 (k_slotP hL j8 j9 ?_)
        rw [j10, hi]
        exact h
      have dec : ∀ x : Int32, x = nI ds.length → x ≤ nI ds.length := fun x hx => by
        subst hx
        exact Int32.le_refl _
      exact zin0 rfl rfl rfl (b156_0 (And.intro (fun z => absurd z (nI_pos (by omega))) (fun _ => And.intro (fun _ => b156_34 (at38 _ j7)) (fun z => absurd (dec _ hd.1) z))))
theorem k_noteTouched {ds : List (Nat × Nat)} {em : Option Nat} {bs : List Nat} (hL : kLay g I) (hd : kDn g 79 81 82 ds I) (hs : kSk g 79 em I) (h20 : ds.length ≤ 20) (hb : ∀ b, b ∈ mBx ds em → sB g b = true) (h64 : bs.length + (mBx ds em).length ≤ 64) (ht : kTo g bs I) (h : ∀ I' : zI, kTo g (bs ++ mBx ds em) I' → pFr (fun o k => o = 88 ∨ (o = 79 ∧ k = 17)) I I' → post none I' L (zR1 q)) : zC G (n + 3) 250 [.ref 79] I L (zR1 q) post := by
  have hg := hL.1.1
  have stat : ∀ J : zI, pFr (fun o k => o = 88 ∨ (o = 79 ∧ k = 17)) I J → kLay g J ∧ kDn g 79 81 82 ds J ∧ kSk g 79 em J := fun J jf => by
    have ro : ∀ o, o ≠ 88 → o ≠ 79 → J o = I o := fun o z1 z2 => funext fun k => jf o k (fun w => w.elim z1 (fun w => z2 w.1))
    have r79 : ∀ k, k ≠ 17 → J 79 k = I 79 k := fun k hk => jf 79 k (fun w => w.elim (by decide) (fun w => hk w.2))
    exact ⟨kLay_of hL (fun o _ z => ro o (by omega) (by omega)), kDn_of hd (r79 6 (by decide)) (ro 81 (by decide) (by decide)) (ro 82 (by decide) (by decide)), kSk_of hs (r79 7 (by decide))⟩
  have key : ∀ j i (J : zI), i + j = (mBx ds em).length → kTo g (bs ++ (mBx ds em).take i) J → pFr (fun o k => o = 88 ∨ (o = 79 ∧ k = 17)) I J → zQ G 250 (n + 2) post 2 [some (.ref 79), some (.int (nI i))] [] J L (zR1 q) := by
    intro j
    induction j with
    | zero =>
      intro i J hi jt jf
      obtain ⟨LJ, dJ, sJ⟩ := stat J jf
      have ei : i = (mBx ds em).length := by omega
      rw [ei, List.take_length] at jt
      exact b250_2 (k_boxesMet hg dJ sJ h20 (pk_le (mBx ds em).length i (fun _ => b250_52 (h J jt jf)) (fun z => absurd z (by omega)) rfl rfl (by omega) (by omega)))
    | succ j ih =>
      intro i J hi jt jf
      obtain ⟨LJ, dJ, sJ⟩ := stat J jf
      have hil : i < (mBx ds em).length := by omega
      have eg := List.getElem?_eq_getElem hil
      generalize (mBx ds em)[i] = b at eg
      have lT : (bs ++ (mBx ds em).take i).length = bs.length + i := by
        rw [List.length_append, List.length_take]
        omega
      obtain ⟨t1, t2, t3⟩ := jt
      rw [lT] at t1
      have hcl : (nI (bs.length + i)).toNatClampNeg = bs.length + i := nI_clamp (by omega)
      have dec : ∀ x : Int32, x = nI (bs.length + i) → ¬ (Int32.ofNat 64 : Int32) ≤ x ∧ vp_in x 64 := fun x hx => by
        subst hx
        exact ⟨fun z => by
          have := (nI_leI (a := 64) (by omega) (by omega)).mp z
          omega, vp_in_nI (by omega) (by decide)⟩
      have d1 := dec _ t1
      have e17 : zup J 88 (bs.length + i) (nI (sl g b)) 79 17 + 1 = nI (bs.length + i + 1) := by rw [zup_ne (by decide), t1, nI_1]
      have qq := ih (i + 1) (zup (zup J 88 (bs.length + i) (nI (sl g b))) 79 17 (zup J 88 (bs.length + i) (nI (sl g b)) 79 17 + 1)) (by omega) ⟨?_, ?_, fun j' b' hj => ?_⟩ (pFr_up (pFr_up jf (.inl rfl)) (.inr ⟨rfl, rfl⟩))
      · rw [← nI_1] at qq
        refine b250_2 (k_boxesMet hg dJ sJ h20 (pk_le (mBx ds em).length i (fun z => absurd z (by omega)) (fun _ => And.intro (fun z => absurd z d1.1) (fun _ => k_slotMet LJ dJ sJ h20 eg (And.intro d1.2 ?_))) rfl rfl (by omega) (by omega)))
        rw [t1, hcl]
        exact And.intro rfl qq
      · rw [zup_self, e17, take_snoc eg, ← List.append_assoc, snoc_len, lT]
      · rw [take_snoc eg, ← List.append_assoc, snoc_len, lT]
        omega
      · rw [take_snoc eg, ← List.append_assoc] at hj
        rw [zup_ne (by decide)]
        rcases getElem_snoc hj with ⟨z1, z2⟩ | ⟨z1, z2⟩
        · rw [z1, z2, lT, zup_self]
          exact ⟨hb b (List.mem_of_getElem? eg), rfl⟩
        · rw [lT] at z1
          rw [zup_k (by omega)]
          exact t3 j' b' z2
  have k0 := key (mBx ds em).length 0 I (by omega) (by rw [List.take_zero, List.append_nil]; exact ht) (pFr_0 _ _)
  exact zin0 rfl rfl rfl (b250_0 k0)
theorem k_takeBack {bs : List Nat} {c' : sC} (hg : gOk g) (ht : kTo g bs I) (hc : kC g c 62 63 64 I) (hc' : kC g c' 65 66 67 I) (hdf : cDf bs c c') (h : ∀ I' : zI, kC g c 65 66 67 I' → zFr (tCh 65 66 67) I I' → post none I' L (zR1 q)) : zC G (n + 3) 251 [.ref 79, .ref 62, .ref 65] I L (zR1 q) post := by
  have key : ∀ (j i : Nat) (d : sC) (J : zI), i + j = bs.length → kC g d 65 66 67 J → zFr (tCh 65 66 67) I J → (bs.drop i).foldl (fun x b => cCpB c x b) d = bs.foldl (fun x b => cCpB c x b) c' → zQ G 251 (n + 2) post 2 [some (.ref 79), some (.ref 62), some (.ref 65), some (.int (nI i))] [] J L (zR1 q) := by
    intro j
    induction j with
    | zero =>
      intro i d J hi jc jf e
      have ei : i = bs.length := by omega
      have r79 : J 79 = I 79 := ch_row jf (by decide) (by decide) (by decide)
      have ro : ∀ o, o ≠ 66 → o ≠ 67 → o ≠ 65 → J o = I o := fun o z1 z2 z3 => ch_row jf z1 z2 z3
      have e17 : J 79 17 = nI bs.length := by rw [r79]; exact ht.1
      rw [ei, List.drop_length] at e
      have e : d = bs.foldl (fun x b => cCpB c x b) c' := e
      have dec : ∀ x : Int32, x = nI bs.length → x ≤ nI i := fun x hx => by
        subst hx
        rw [ei]
        exact Int32.le_refl _
      refine b251_2 (And.intro (fun _ => b251_36 (k_copyRest (c := c) (c' := d) (.inl ⟨rfl, rfl, rfl, rfl, rfl, rfl⟩) (kC_of hc (ro 63 (by decide) (by decide) (by decide)) (ro 64 (by decide) (by decide) (by decide)) (fun k _ => by rw [ro 62 (by decide) (by decide) (by decide)])) jc (fun I' c2 f2 => ?_))) (fun z => absurd (dec _ e17) z))
      rw [e, cDf_back c bs c' hdf] at c2
      exact h I' c2 (zFr_tr jf f2)
    | succ j ih =>
      intro i d J hi jc jf e
      have hil : i < bs.length := by omega
      have h64 := ht.2.1
      have eg := List.getElem?_eq_getElem hil
      have edr : bs.drop i = bs[i] :: bs.drop (i + 1) := List.drop_eq_getElem_cons hil
      rw [edr] at e
      generalize bs[i] = b at eg e
      have e : (bs.drop (i + 1)).foldl (fun x b => cCpB c x b) (cCpB c d b) = bs.foldl (fun x b => cCpB c x b) c' := e
      obtain ⟨b1, b2⟩ := ht.2.2 i b eg
      have ro : ∀ o, o ≠ 66 → o ≠ 67 → o ≠ 65 → J o = I o := fun o z1 z2 z3 => ch_row jf z1 z2 z3
      have e17 : J 79 17 = nI bs.length := by rw [ro 79 (by decide) (by decide) (by decide)]; exact ht.1
      have e88 : J 88 i = nI (sl g b) := by rw [ro 88 (by decide) (by decide) (by decide)]; exact b2
      have dec : ∀ x : Int32, x = nI bs.length → ¬ x ≤ nI i := fun x hx z => by
        subst hx
        have := (nI_leI (by omega) (by omega)).mp z
        omega
      have dd := dec _ e17
      refine b251_2 (And.intro (fun z => absurd z dd) (fun _ => pk_le 64 i (fun z => absurd z (by omega)) (fun _ => And.intro (vp_in_nI (by omega) (by decide)) ?_) rfl rfl (by omega) (by omega)))
      rw [nI_clamp (by omega), e88]
      refine k_copyBox (c := c) (c' := d) hg (kC_of hc (ro 63 (by decide) (by decide) (by decide)) (ro 64 (by decide) (by decide) (by decide)) (fun k _ => by rw [ro 62 (by decide) (by decide) (by decide)])) jc b1 (fun I' c2 f2 => ?_)
      have qq := ih (i + 1) (cCpB c d b) I' (by omega) c2 (zFr_tr jf f2) e
      rw [← nI_1] at qq
      exact qq
  have k0 := key bs.length 0 c' I (by omega) hc' (zFr_0 _ _) rfl
  exact zin0 rfl rfl rfl (b251_0 k0)
end
