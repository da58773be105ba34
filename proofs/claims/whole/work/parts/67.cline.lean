-- ===== the class: lines =====
/-- the line of the code c = 4 * place + direction lies on the board -/
def lnIn (W H K c : Nat) : Bool := (List.range K).all fun i => rIn W H (c / 4) (c % 4) i
/-- the codes of the lines on the board, ascending -/
def lnL (W H K : Nat) : Nat → List Nat
  | 0 => []
  | c + 1 => if lnIn W H K c = true then lnL W H K c ++ [c] else lnL W H K c
/-- a mask of places: the line c -/
def lnM (W K c l : Nat) : Prop := l < 512 ∧ ∀ k, l.testBit k = (List.range K).any fun i => Nat.beq (rPl W (c / 4) (c % 4) i) k
theorem lnL_len (W H K : Nat) : ∀ c, (lnL W H K c).length ≤ c
  | 0 => Nat.le_refl _
  | c + 1 => by
    have q := lnL_len W H K c
    rw [lnL]
    split
    · rw [snoc_len]
      omega
    · omega
theorem lnL_mem {W H K c : Nat} : ∀ n, c ∈ lnL W H K n ↔ c < n ∧ lnIn W H K c = true
  | 0 => ⟨(fun h => by cases h), fun h => absurd h.1 (Nat.not_lt_zero _)⟩
  | n + 1 => by
    have q := lnL_mem (W := W) (H := H) (K := K) (c := c) n
    rw [lnL]
    split
    · rename_i d
      rw [List.mem_append, q, List.mem_singleton]
      constructor
      · rintro (⟨a, b⟩ | rfl)
        · exact ⟨by omega, b⟩
        · exact ⟨by omega, d⟩
      · rintro ⟨a, b⟩
        by_cases e : c = n
        · exact .inr e
        · exact .inl ⟨by omega, b⟩
    · rename_i d
      rw [q]
      constructor
      · rintro ⟨a, b⟩
        exact ⟨by omega, b⟩
      · rintro ⟨a, b⟩
        refine ⟨?_, b⟩
        by_cases e : c = n
        · subst e
          exact absurd b d
        · omega
theorem zand_eq {a b : Nat} : (a &&& b) = b ↔ ∀ k, b.testBit k = true → a.testBit k = true := by
  constructor
  · intro h k hk
    rw [← h, Nat.testBit_and] at hk
    exact (Bool.and_eq_true_iff.mp hk).1
  · intro h
    apply Nat.eq_of_testBit_eq
    intro k
    rw [Nat.testBit_and]
    cases e : b.testBit k with
    | false => exact Bool.and_false _
    | true => rw [h k e]; rfl
theorem zandN (a b : Nat) : nI a &&& nI b = nI (a &&& b) := Int32.toBitVec_inj.mp (BitVec.ofNat_and (w := 32)).symm
/-- a row of stones, by the mask of the places that hold them -/
theorem sRow_lines {g : zg} {p s own : Nat} (hg : gOk g) (hown : ∀ k, own.testBit k = (decide (k < sPl g) && decide (sCell p k = s))) : sRow g p s = true ↔ ∃ c, c ∈ lnL (g 1) (g 2) (g 3) (4 * sPl g) ∧ ∀ l, lnM (g 1) (g 3) c l → own &&& l = l := by
  unfold sRow
  rw [List.any_eq_true]
  constructor
  · rintro ⟨pl, hpl, h⟩
    rw [List.any_eq_true] at h
    obtain ⟨d, hd, h⟩ := h
    rw [List.mem_range] at hpl hd
    have e1 : (4 * pl + d) / 4 = pl := by omega
    have e2 : (4 * pl + d) % 4 = d := by omega
    unfold sRay at h
    refine ⟨4 * pl + d, (lnL_mem _).mpr ⟨by omega, ?_⟩, fun l hl => ?_⟩
    · unfold lnIn
      rw [e1, e2, List.all_eq_true]
      intro i hi
      have := List.all_eq_true.mp h i hi
      rw [sAt_eq] at this
      exact (Bool.and_eq_true_iff.mp this).1
    · rw [zand_eq]
      intro k hk
      rw [hl.2 k, e1, e2, List.any_eq_true] at hk
      obtain ⟨i, hi, hik⟩ := hk
      have := List.all_eq_true.mp h i hi
      rw [sAt_eq] at this
      obtain ⟨a1, a2⟩ := Bool.and_eq_true_iff.mp this
      rw [hown, ← Nat.eq_of_beq_eq_true hik, decide_eq_true (rPl_lt a1)]
      exact a2
  · rintro ⟨c, hc, h⟩
    obtain ⟨hc1, hc2⟩ := (lnL_mem _).mp hc
    refine ⟨c / 4, List.mem_range.mpr (by omega), ?_⟩
    rw [List.any_eq_true]
    refine ⟨c % 4, List.mem_range.mpr (Nat.mod_lt _ (by decide)), ?_⟩
    unfold sRay
    rw [List.all_eq_true]
    intro i hi
    rw [sAt_eq]
    have ain := List.all_eq_true.mp hc2 i hi
    rw [ain]
    -- a mask of the line
    have hm : lnM (g 1) (g 3) c (sFB (fun k => (List.range (g 3)).any fun i => Nat.beq (rPl (g 1) (c / 4) (c % 4) i) k) 9) := by
      refine ⟨sFB_lt _ 9, fun k => ?_⟩
      rw [sFB_tb]
      cases e : (List.range (g 3)).any fun i => Nat.beq (rPl (g 1) (c / 4) (c % 4) i) k with
      | false => exact Bool.and_false _
      | true =>
        obtain ⟨j, hj, hjk⟩ := List.any_eq_true.mp e
        have jin := List.all_eq_true.mp hc2 j hj
        have := rPl_lt jin
        have := sPl_pos hg
        rw [Nat.eq_of_beq_eq_true hjk] at *
        rw [decide_eq_true (by omega)]
        rfl
    have h2 := zand_eq.mp (h _ hm) (rPl (g 1) (c / 4) (c % 4) i) (by
      rw [hm.2, List.any_eq_true]
      exact ⟨i, hi, Nat.beq_refl _⟩)
    rw [hown] at h2
    exact (Bool.and_eq_true_iff.mp h2).2
/-- the lines of the board, laid -/
def kLn (g : zg) (I : zI) : Prop := I 44 6 = nI (lnL (g 1) (g 2) (g 3) (4 * sPl g)).length ∧ ∀ j c, (lnL (g 1) (g 2) (g 3) (4 * sPl g))[j]? = some c → ∃ l, I 50 j = nI l ∧ lnM (g 1) (g 3) c l
theorem kLn_of {g : zg} {I I' : zI} (h : kLn g I) (h4 : I' 44 6 = I 44 6) (h5 : I' 50 = I 50) : kLn g I' := by
  unfold kLn
  rw [h4, h5]
  exact h
section
variable {G : zG} {n : Nat} {I : zI} {L : zL} {q : zq} {post : zPo} {g : zg}
theorem k_hasLine {p s own : Nat} (hg : kG g I) (hl : kLn g I) (ho : own < 512) (hown : ∀ k, own.testBit k = (decide (k < sPl g) && decide (sCell p k = s))) (h : post (some (.int (zbo (sRow g p s)))) I L (zR1 q)) : zC G (n + 1) 230 [.ref 44, .int (nI own)] I L (zR1 q) post := by
  have hlen := lnL_len (g 1) (g 2) (g 3) (4 * sPl g)
  have hpl := sPl_pos hg.1
  generalize hLs : lnL (g 1) (g 2) (g 3) (4 * sPl g) = Ls at hl hlen
  obtain ⟨l1, l2⟩ := hl
  rw [hLs] at l1 l2
  have key : ∀ j i, i + j = Ls.length → (∀ i' c, i' < i → Ls[i']? = some c → ∃ l, lnM (g 1) (g 3) c l ∧ own &&& l ≠ l) → zQ G 230 n post 2 [some (.ref 44), some (.int (nI own)), some (.int (nI i))] [] I L (zR1 q) := by
    intro j
    induction j with
    | zero =>
      intro i hi hno
      refine b230_2 ?_
      show (I 44 6 ≤ nI i → _) ∧ (¬ I 44 6 ≤ nI i → _)
      rw [l1]
      refine pk_le Ls.length i (fun _ => b230_44 (And.intro rfl ?_)) (fun z => absurd z (by omega)) rfl rfl (by omega) (by omega)
      have hr : sRow g p s = false := by
        rw [Bool.eq_false_iff]
        intro z
        obtain ⟨c, hc, h2⟩ := (sRow_lines hg.1 hown).mp z
        rw [hLs] at hc
        obtain ⟨i', hi', he⟩ := List.getElem_of_mem hc
        obtain ⟨l, m1, m2⟩ := hno i' c (by omega) (List.getElem?_eq_some_iff.mpr ⟨hi', he⟩)
        exact m2 (h2 l m1)
      rw [hr] at h
      exact h
    | succ j ih =>
      intro i hi hno
      have hil : i < Ls.length := by omega
      obtain ⟨l, e1, e2⟩ := l2 i Ls[i] (List.getElem?_eq_getElem hil)
      have e3 : nI own &&& I 50 (nI i).toNatClampNeg = nI (own &&& l) := by rw [nI_clamp (by omega), e1, zandN]
      have l512 := e2.1
      have hand : own &&& l < 2 ^ 31 := Nat.lt_of_le_of_lt Nat.and_le_left (by omega)
      refine b230_2 ?_
      show (I 44 6 ≤ nI i → _) ∧ (¬ I 44 6 ≤ nI i → _)
      rw [l1]
      refine pk_le Ls.length i (fun z => absurd z (by omega)) (fun _ => pk_le 36 i (fun z => absurd z (by omega)) (fun _ => And.intro (vp_in_nI (by omega) (by decide)) (And.intro (vp_in_nI (by omega) (by decide)) ?_)) rfl rfl (by omega) (by omega)) rfl rfl (by omega) (by omega)
      rw [e3, nI_clamp (by omega), e1]
      refine pk_ne (own &&& l) l (fun d => b230_38 ?_) (fun d => And.intro rfl ?_) rfl rfl hand (by omega)
      · have qq := ih (i + 1) (by omega) (fun i' c hi' hc => by
          by_cases w : i' = i
          · subst w
            rw [List.getElem?_eq_getElem hil] at hc
            injection hc with hc
            rw [← hc]
            exact ⟨l, e2, d⟩
          · exact hno i' c (by omega) hc)
        rw [← nI_1] at qq
        exact qq
      · have hr : sRow g p s = true := (sRow_lines hg.1 hown).mpr ⟨Ls[i], by rw [hLs]; exact List.getElem_mem hil, fun l' hl' => by
          have : l' = l := Nat.eq_of_testBit_eq fun k => by rw [hl'.2, e2.2]
          rw [this]
          exact d⟩
        rw [hr] at h
        exact h
  exact zin0 rfl rfl rfl (b230_0 (key Ls.length 0 (by omega) (fun i' c z => absurd z (Nat.not_lt_zero _))))
end
