-- ===== the chest, told: beads, opened, bag, spent, R; what is noted =====
abbrev sC : Type := (Nat → Nat) × (Nat → Bool) × Nat × Nat × Int32
def fup {α : Type} (f : Nat → α) (k : Nat) (v : α) : Nat → α := fun j => if j = k then v else f j
theorem fup_s {α : Type} {f : Nat → α} {k : Nat} {v : α} : fup f k v k = v := if_pos rfl
theorem fup_n {α : Type} {f : Nat → α} {k j : Nat} {v : α} (h : j ≠ k) : fup f k v j = f j := if_neg h
theorem fup_back {α : Type} (f : Nat → α) (k : Nat) (v : α) : fup (fup f k v) k (f k) = f := by
  funext j
  by_cases c : j = k
  · rw [c, fup_s]
  · rw [fup_n c, fup_n c]
def cSetBd (c : sC) (k v : Nat) : sC := (fup c.1 k v, c.2)
def cSetOp (c : sC) (k : Nat) (v : Bool) : sC := (c.1, fup c.2.1 k v, c.2.2)
def cSetBag (c : sC) (v : Nat) : sC := (c.1, c.2.1, v, c.2.2.2)
def cSetSp (c : sC) (v : Nat) : sC := (c.1, c.2.1, c.2.2.1, v, c.2.2.2.2)
/-- the model's chest -/
def mC (c : sC) (I : zI) : Prop := (∀ k, k < 177147 → I 5 k = nI (c.1 k)) ∧ (∀ k, k < 19683 → I 4 k = zbo (c.2.1 k)) ∧ I 0 14 = nI c.2.2.1 ∧ I 0 15 = nI c.2.2.2.1 ∧ I 0 16 = c.2.2.2.2
/-- one note undone -/
def uU (e : Nat × Nat) (c : sC) : sC := if e.1 = 177147 then cSetBag c e.2 else if e.1 = 177148 then cSetSp c e.2 else if e.1 = 177149 then cSetOp c e.2 false else cSetBd c e.1 e.2
abbrev uW : Type := Option (List (Nat × Nat))
def uAdd (w : uW) (e : Nat × Nat) : uW := match w with
  | none => none
  | some es => some (es ++ [e])
/-- what is noted, if it is -/
def mU (w : uW) (I : zI) : Prop := match w with
  | none => I 0 35 = 0
  | some es => I 0 35 = 1 ∧ I 0 36 = nI es.length ∧ ∀ i e, es[i]? = some e → I 18 i = nI e.1 ∧ I 19 i = nI e.2
def uRoom (w : uW) (k : Nat) : Prop := match w with
  | none => True
  | some es => es.length + k ≤ 20000
/-- a note that can be undone -/
def uV (e : Nat × Nat) : Prop := e.1 ≤ 177149 ∧ e.2 < 2 ^ 31 ∧ (e.1 = 177149 → e.2 < 19683)
/-- from w and c to w' and c' with at most k notes, that undone lead back -/
def uSt (w : uW) (c : sC) (k : Nat) (w' : uW) (c' : sC) : Prop := match w, w' with
  | none, none => True
  | some es, some es' => ∃ fs, es' = es ++ fs ∧ fs.length ≤ k ∧ fs.foldr uU c' = c ∧ ∀ e, e ∈ fs → uV e
  | _, _ => False
theorem uSt_0 (w : uW) (c : sC) : uSt w c 0 w c := by
  cases w with
  | none => trivial
  | some es => exact ⟨[], (List.append_nil es).symm, Nat.le_refl _, rfl, fun e he => by cases he⟩
theorem uSt_add {w : uW} {c c' : sC} {e : Nat × Nat} (hv : uV e) (h : uU e c' = c) : uSt w c 1 (uAdd w e) c' := by
  cases w with
  | none => trivial
  | some es => exact ⟨[e], rfl, Nat.le_refl _, h, fun x hx => by rw [List.mem_singleton.mp hx]; exact hv⟩
theorem uSt_tr {w w' w'' : uW} {c c' c'' : sC} {k k' : Nat} (h : uSt w c k w' c') (h2 : uSt w' c' k' w'' c'') : uSt w c (k + k') w'' c'' := by
  match w, w', w'', h, h2 with
  | none, none, none, _, _ => trivial
  | some es, some es', some es'', ⟨fs, e1, e2, e3, e4⟩, ⟨fs', f1, f2, f3, f4⟩ =>
    refine ⟨fs ++ fs', by rw [f1, e1, List.append_assoc], by rw [List.length_append]; omega, ?_, fun x hx => (List.mem_append.mp hx).elim (e4 x) (f4 x)⟩
    rw [List.foldr_append, f3, e3]
theorem uSt_le {w w' : uW} {c c' : sC} {k k' : Nat} (h : uSt w c k w' c') (hk : k ≤ k') : uSt w c k' w' c' := by
  match w, w', h with
  | none, none, _ => trivial
  | some es, some es', ⟨fs, e1, e2, e3⟩ => exact ⟨fs, e1, Nat.le_trans e2 hk, e3⟩
theorem uRoom_st {w w' : uW} {c c' : sC} {k k' : Nat} (h : uSt w c k w' c') (hr : uRoom w (k + k')) : uRoom w' k' := by
  match w, w', h, hr with
  | none, none, _, _ => trivial
  | some es, some es', ⟨fs, e1, e2, e3⟩, hr =>
    show es'.length + k' ≤ 20000
    have hr : es.length + (k + k') ≤ 20000 := hr
    rw [e1, List.length_append]
    omega
theorem uRoom_le {w : uW} {k k' : Nat} (hr : uRoom w k') (h : k ≤ k') : uRoom w k := by
  match w, hr with
  | none, _ => trivial
  | some es, hr =>
    show es.length + k ≤ 20000
    have hr : es.length + k' ≤ 20000 := hr
    omega
/-- what the chest's calls may touch -/
def tC (o k : Nat) : Bool := Nat.beq o 4 || Nat.beq o 5 || Nat.beq o 18 || Nat.beq o 19 || (Nat.beq o 0 && (Nat.beq k 14 || Nat.beq k 15 || Nat.beq k 16 || Nat.beq k 36))
def zFr (t : Nat → Nat → Bool) (I I' : zI) : Prop := ∀ o k, t o k = false → I' o k = I o k
theorem zFr_0 (t : Nat → Nat → Bool) (I : zI) : zFr t I I := fun _ _ _ => rfl
theorem zFr_tr {t : Nat → Nat → Bool} {I I' I'' : zI} (h : zFr t I I') (h2 : zFr t I' I'') : zFr t I I'' := fun o k z => (h2 o k z).trans (h o k z)
theorem zFr_up {t : Nat → Nat → Bool} {I I' : zI} {o k : Nat} {v : Int32} (h : zFr t I I') (ht : t o k = true) : zFr t I (zup I' o k v) := fun o' k' z => by
  refine Eq.trans ?_ (h o' k' z)
  unfold zup
  by_cases c : o' = o
  · rw [if_pos c]
    by_cases d : k' = k
    · subst c d
      rw [ht] at z
      cases z
    · rw [if_neg d]
  · rw [if_neg c]
/-- what a note touches -/
def tU (o k : Nat) : Bool := Nat.beq o 18 || Nat.beq o 19 || (Nat.beq o 0 && Nat.beq k 36)
theorem tU_tC (o k : Nat) (h : tC o k = false) : tU o k = false := by
  unfold tC at h
  unfold tU
  simp only [Bool.or_eq_false_iff, Bool.and_eq_false_iff] at h ⊢
  obtain ⟨⟨⟨⟨h1, h2⟩, h3⟩, h4⟩, h5⟩ := h
  refine ⟨⟨h3, h4⟩, ?_⟩
  rcases h5 with h5 | h5
  · exact Or.inl h5
  · exact Or.inr h5.2
section
variable {G : zG} {n : Nat} {I : zI} {L : zL} {q : zq} {post : zPo} {g : zg} {c : sC} {w : uW}
theorem c_note {a v : Nat} (hw : mU w I) (hr : uRoom w 1) (h : ∀ I' : zI, mU (uAdd w (a, v)) I' → zFr tU I I' → post none I' L (zR1 q)) : zC G (n + 1) 29 [.ref 0, .int (nI a), .int (nI v)] I L (zR1 q) post := by
  refine zin0 rfl rfl rfl (b29_0 ?_)
  cases w with
  | none =>
    have hw : I 0 35 = 0 := hw
    exact And.intro (fun z => absurd hw z) (fun _ => h I hw (zFr_0 _ _))
  | some es =>
    obtain ⟨h1, h2, h3⟩ := hw
    have hr : es.length + 1 ≤ 20000 := hr
    have ec : (I 0 36).toNatClampNeg = es.length := by rw [h2, nI_clamp (by omega)]
    have inb : vp_in (I 0 36) 20000 := by rw [h2]; exact vp_in_nI (by omega) (by decide)
    refine And.intro (fun _ => b29_8 (And.intro inb (And.intro inb ?_))) (fun z => absurd (h1.symm.trans z) (by decide))
    refine And.intro rfl ?_
    refine (fun (J : zI) (hJ : mU (uAdd (some es) (a, v)) J ∧ zFr tU I J) => h J hJ.1 hJ.2) _ ?_
    refine ⟨⟨h1, ?_, fun i e he => ?_⟩, zFr_up (zFr_up (zFr_up (zFr_0 _ _) rfl) rfl) rfl⟩
    · show I 0 36 + 1 = _
      rw [h2, nI_1, List.length_append]
      rfl
    · show zup I 18 (I 0 36).toNatClampNeg (nI a) 18 i = _ ∧ zup (zup I 18 (I 0 36).toNatClampNeg (nI a)) 19 (I 0 36).toNatClampNeg (nI v) 19 i = _
      rw [ec, zup_eq, zup_eq, zup_ne (by decide)]
      by_cases d : i = es.length
      · subst d
        rw [List.getElem?_append_right (Nat.le_refl _), Nat.sub_self] at he
        cases he
        rw [if_pos rfl, if_pos rfl]
        exact ⟨rfl, rfl⟩
      · have hl : i < es.length := by
          have := (List.getElem?_eq_some_iff.mp he).1
          rw [List.length_append] at this
          have e1 : [(a, v)].length = 1 := rfl
          omega
        rw [List.getElem?_append_left hl] at he
        rw [if_neg d, if_neg d]
        exact h3 i e he
theorem mU_of {I' : zI} (h : mU w I) (h0 : I' 0 35 = I 0 35) (h1 : I' 0 36 = I 0 36) (h2 : I' 18 = I 18) (h3 : I' 19 = I 19) : mU w I' := by
  cases w with
  | none => exact h0.trans h
  | some es => exact ⟨h0.trans h.1, h1.trans h.2.1, fun i e he => by rw [h2, h3]; exact h.2.2 i e he⟩
theorem mC_of {I' : zI} (h : mC c I) (h5 : I' 5 = I 5) (h4 : I' 4 = I 4) (h14 : I' 0 14 = I 0 14) (h15 : I' 0 15 = I 0 15) (h16 : I' 0 16 = I 0 16) : mC c I' := by
  obtain ⟨a1, a2, a3, a4, a5⟩ := h
  exact ⟨by rw [h5]; exact a1, by rw [h4]; exact a2, h14.trans a3, h15.trans a4, h16.trans a5⟩
theorem mC_tU {I' : zI} (h : mC c I) (hf : zFr tU I I') : mC c I' := mC_of h (funext fun k => hf 5 k rfl) (funext fun k => hf 4 k rfl) (hf 0 14 rfl) (hf 0 15 rfl) (hf 0 16 rfl)
theorem zFr_tU {I' : zI} (hf : zFr tU I I') : zFr tC I I' := fun o k z => hf o k (tU_tC o k z)
theorem c_setBeads {k v : Nat} (hk : k < 177147) (hb : c.1 k < 2 ^ 31) (hc : mC c I) (hw : mU w I) (hr : uRoom w 1) (h : ∀ (I' : zI) (w' : uW), mC (cSetBd c k v) I' → mU w' I' → uSt w c 1 w' (cSetBd c k v) → zFr tC I I' → post none I' L (zR1 q)) : zC G (n + 2) 30 [.ref 0, .int (nI k), .int (nI v)] I L (zR1 q) post := by
  have ec : (nI k).toNatClampNeg = k := nI_clamp (by omega)
  refine zin0 rfl rfl rfl (b30_0 (And.intro (vp_in_nI hk (by decide)) ?_))
  show zC G (n + 1) 29 [.ref 0, .int (nI k), .int (I 5 (nI k).toNatClampNeg)] I L (zR1 q) _
  rw [ec, hc.1 k hk]
  refine c_note hw hr fun I' hu hf => ?_
  refine And.intro (vp_in_nI hk (by decide)) ?_
  have hc' := mC_tU hc hf
  show post none (zup I' 5 (nI k).toNatClampNeg (nI v)) L (zR1 q)
  rw [ec]
  refine h _ (uAdd w (k, c.1 k)) ?_ (mU_of hu (by rw [zup_ne (by decide)]) (by rw [zup_ne (by decide)]) (by rw [zup_ne (by decide)]) (by rw [zup_ne (by decide)])) (uSt_add ⟨by show k ≤ 177149; omega, hb, fun z => absurd (show k = 177149 from z) (by omega)⟩ ?_) (zFr_up (zFr_tU hf) rfl)
  · refine ⟨fun j hj => ?_, ?_⟩
    · rw [zup_eq]
      show _ = nI (fup c.1 k v j)
      unfold fup
      by_cases d : j = k
      · rw [if_pos d, if_pos d]
      · rw [if_neg d, if_neg d]
        exact hc'.1 j hj
    · rw [zup_ne (by decide), zup_ne (by decide)]
      exact hc'.2
  · unfold uU
    rw [if_neg (by show ¬ k = 177147; omega), if_neg (by show ¬ k = 177148; omega), if_neg (by show ¬ k = 177149; omega)]
    show (fup (fup c.1 k v) k (c.1 k), c.2) = c
    rw [fup_back]
end
