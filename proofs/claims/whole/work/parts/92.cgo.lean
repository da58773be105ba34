-- ===== the class: all ways =====
def mAc (a : zwa) (L : zL) : Prop := L 79 18 = lN a.1 ∧ L 79 19 = lN a.2.1 ∧ L 79 20 = lN a.2.2.1 ∧ L 79 21 = lN (if a.1 = 0 then 0 else a.2.2.2.1) ∧ L 79 22 = lN (if a.1 = 0 then 10000 else a.2.2.2.2) ∧ a.2.2.2.1 ≤ 10000 ∧ a.2.2.2.2 ≤ 10000
def yTn (a : Nat) (b : Option Nat) (r : Option (List Nat)) : Option (List Nat) := match r with
  | some π => some (a :: π)
  | none => match b with
    | none => none
    | some k' => some [k']
theorem yTurn_cons {a : Nat} {b : Option Nat} {cs : List Nat} {fs : List (Option Nat)} : yTurn (a :: cs) (b :: fs) = yTn a b (yTurn cs fs) := by
  have e : yTurn (a :: cs) (b :: fs) = match yTurn cs fs with
    | some π => some (a :: π)
    | none => match b with
      | none => none
      | some k' => some [k'] := rfl
  rw [e]
  unfold yTn
  cases yTurn cs fs <;> cases b <;> rfl
theorem yTurn_snoc {k : Nat} {f : Option Nat} : ∀ (cs : List Nat) (fs : List (Option Nat)), fs.length = cs.length → yTurn (cs ++ [k]) (fs ++ [f]) = match f with
    | some k' => some (cs ++ [k'])
    | none => yTurn cs fs
  | [], [], _ => by cases f <;> rfl
  | [], _ :: _, h => by cases h
  | _ :: _, [], h => by cases h
  | a :: cs, b :: fs, h => by
    have ih := yTurn_snoc (k := k) (f := f) cs fs (Nat.succ.inj h)
    rw [List.cons_append, List.cons_append, yTurn_cons, ih]
    cases f with
    | none => exact yTurn_cons.symm
    | some k' => rfl
/-- the number under a number -/
def yIx : Nat → Int32
  | 0 => -1
  | m + 1 => nI m
theorem yIx_dn (m : Nat) : nI m + -1 = yIx m := by
  cases m with
  | zero => rfl
  | succ m =>
    show nI (m + 1) + -1 = nI m
    rw [← nI_1, Int32.add_assoc]
    exact Int32.add_zero _
section
variable {G : zG} {n : Nat} {I : zI} {L : zL} {R : zR} {q : zq} {post : zPo} {g : zg} {c : sC}
theorem k_addUp {a : zwa} {B ch : Nat} (ha : mAc a L) (hB : B ≤ 10000) (hch : L 79 15 = lN ch) (h : ∀ L' : zL, mAc (wAcc a (ch, B)) L' → (∀ o k, ¬ (o = 79 ∧ 18 ≤ k ∧ k ≤ 22) → L' o k = L o k) → post none I L' R) : zC G (n + 1) 249 [.ref 79, .int (nI B)] I L R post := by
  obtain ⟨h1, h2, h3, h4, h5, h6, h7⟩ := ha
  refine zin0 rfl rfl rfl (b249_0 (And.intro rfl (And.intro rfl (And.intro rfl ?_))))
  refine h _ ⟨?_, ?_, ?_, ?_, ?_, ?_, ?_⟩ (fun o k z => ?_)
  · show L 79 18 + 1 = lN (a.1 + 1)
    rw [h1, show (1 : Int64) = lN 1 from rfl, lN_add]
  · show L 79 19 + L 79 15 = lN (a.2.1 + ch)
    rw [h2, hch, lN_add]
  · show L 79 20 + L 79 15 * (nI B).toInt64 = lN (a.2.2.1 + ch * B)
    rw [h3, hch, nI_l (by omega), lN_acc]
  · show (if (nI B).toInt64 < L 79 21 then L 79 21 else (nI B).toInt64) = lN (if a.1 + 1 = 0 then 0 else if a.1 = 0 then B else max a.2.2.2.1 B)
    rw [h4, nI_l (by omega), if_neg (Nat.succ_ne_zero _)]
    by_cases c : a.1 = 0
    · rw [if_pos c, if_pos c, if_neg (fun z => absurd ((pk_lLT (by omega) (by omega)).mp z) (Nat.not_lt_zero _))]
    · rw [if_neg c, if_neg c]
      by_cases d : B < a.2.2.2.1
      · rw [if_pos ((pk_lLT (by omega) (by omega)).mpr d), Nat.max_eq_left (by omega)]
      · rw [if_neg (fun z => d ((pk_lLT (by omega) (by omega)).mp z)), Nat.max_eq_right (by omega)]
  · show (if (nI B).toInt64 < L 79 22 then (nI B).toInt64 else L 79 22) = lN (if a.1 + 1 = 0 then 10000 else if a.1 = 0 then B else min a.2.2.2.2 B)
    rw [h5, nI_l (by omega), if_neg (Nat.succ_ne_zero _)]
    by_cases c : a.1 = 0
    · rw [if_pos c, if_pos c]
      by_cases d : B < 10000
      · rw [if_pos ((pk_lLT (by omega) (by omega)).mpr d)]
      · rw [if_neg (fun z => d ((pk_lLT (by omega) (by omega)).mp z)), show B = 10000 by omega]
    · rw [if_neg c, if_neg c]
      by_cases d : B < a.2.2.2.2
      · rw [if_pos ((pk_lLT (by omega) (by omega)).mpr d), Nat.min_eq_right (by omega)]
      · rw [if_neg (fun z => d ((pk_lLT (by omega) (by omega)).mp z)), Nat.min_eq_left (by omega)]
  · show (if a.1 = 0 then B else max a.2.2.2.1 B) ≤ 10000
    split <;> omega
  · show (if a.1 = 0 then B else min a.2.2.2.2 B) ≤ 10000
    split <;> omega
  · unfold zup
    by_cases d : o = 79
    · rw [if_pos d, if_neg (fun w => z ⟨d, by omega⟩), if_pos d, if_neg (fun w => z ⟨d, by omega⟩), if_pos d, if_neg (fun w => z ⟨d, by omega⟩), if_pos d, if_neg (fun w => z ⟨d, by omega⟩), if_pos d, if_neg (fun w => z ⟨d, by omega⟩)]
    · rw [if_neg d, if_neg d, if_neg d, if_neg d, if_neg d]
theorem k_turnOn {t : zyw} (ht : tWp t I L) (hl : t.2.2.1.length = t.2.1.length) (h128 : t.2.1.length ≤ 128) (h0 : yTurn t.2.1 t.2.2.1 = none → post (some (.int 0)) I L (zR1 q)) (h1 : ∀ π, yTurn t.2.1 t.2.2.1 = some π → ∀ I' : zI, I' 79 14 = nI π.length → (∀ j k, π[j]? = some k → I' 86 j = nI k) → pFr (fun o k => o = 86 ∨ (o = 79 ∧ k = 14)) I I' → post (some (.int 1)) I' L (zR1 q)) : zC G (n + 1) 252 [.ref 79] I L (zR1 q) post := by
  obtain ⟨ks, cs, fs, ch⟩ := t
  obtain ⟨t1, t2, t3, t4, t5, t6, t7⟩ := ht
  have t1 : I 79 13 = nI cs.length := t1
  have t5 : ∀ j k, cs[j]? = some k → I 86 j = nI k := t5
  have t6 : ∀ j f, fs[j]? = some f → I 87 j = zon f ∧ ∀ k, f = some k → k < 1000 := t6
  have hl : fs.length = cs.length := hl
  have h128 : cs.length ≤ 128 := h128
  have key : ∀ i, i ≤ cs.length → yTurn (cs.take i) (fs.take i) = yTurn cs fs → zQ G 252 n post 15 [some (.ref 79), some (.int (yIx i))] [] I L (zR1 q) := by
    intro i
    induction i with
    | zero =>
      intro _ e
      have e : none = yTurn cs fs := e
      exact b252_15 (And.intro (fun _ => b252_55 (And.intro rfl (h0 e.symm))) (fun z => absurd (by decide) z))
    | succ m ih =>
      intro hm e
      have hmc : m < cs.length := by omega
      have hmf : m < fs.length := by omega
      rw [take_snoc (List.getElem?_eq_getElem hmc), take_snoc (List.getElem?_eq_getElem hmf), yTurn_snoc _ _ (by rw [List.length_take, List.length_take]; omega)] at e
      obtain ⟨f1, f2⟩ := t6 m fs[m] (List.getElem?_eq_getElem hmf)
      have hcl : (nI m).toNatClampNeg = m := nI_clamp (by omega)
      have vm : vp_in (nI m) 128 := vp_in_nI (by omega) (by decide)
      show zQ G 252 n post 15 [some (.ref 79), some (.int (nI m))] [] I L (zR1 q)
      refine b252_15 (And.intro (fun z => absurd z (nI_pos (by omega))) (fun _ => And.intro vm ?_))
      rw [hcl, f1]
      cases ef : fs[m] with
      | none =>
        rw [ef] at e
        have qq := ih (by omega) e
        rw [← yIx_dn] at qq
        exact And.intro (fun _ => b252_49 qq) (fun z => absurd (by decide) z)
      | some k' =>
        rw [ef] at e f1
        have e : some (cs.take m ++ [k']) = yTurn cs fs := e
        have hk' := f2 k' ef
        have hh := h1 _ e.symm (zup (zup I 86 m (nI k')) 79 14 (nI (m + 1))) (by rw [zup_self, snoc_len, List.length_take, Nat.min_eq_left (by omega)]) (fun j k hj => by
          rw [zup_ne (by decide)]
          rcases getElem_snoc hj with ⟨z1, z2⟩ | ⟨z1, z2⟩
          · rw [z1, z2, List.length_take, Nat.min_eq_left (by omega), zup_self]
          · rw [List.length_take, Nat.min_eq_left (by omega)] at z1
            rw [zup_k (by omega)]
            rw [List.getElem?_take, if_pos z1] at z2
            exact t5 j k z2) (pFr_up (pFr_up (pFr_0 _ _) (.inl rfl)) (.inr ⟨rfl, rfl⟩))
        rw [← nI_1] at hh
        have f1 : I 87 m = nI k' := f1
        refine And.intro (fun z => absurd z (nI_pos (by omega))) (fun _ => And.intro vm (And.intro vm ?_))
        rw [hcl, f1]
        exact And.intro rfl hh
  have k0 := key cs.length (Nat.le_refl _) (by rw [List.take_length, ← hl, List.take_length])
  have dec : ∀ x : Int32, x = nI cs.length → (if (128 : Int32) < x then 128 else x) - 1 = yIx cs.length := fun x hx => by
    subst hx
    rw [if_neg (fun z => by have := (nI_ltI (a := 128) (by omega) (by omega)).mp z; omega), Int32.sub_eq_add_neg]
    exact yIx_dn _
  have d1 := dec _ t1
  rw [← d1] at k0
  exact zin0 rfl rfl rfl (b252_0 k0)
end
