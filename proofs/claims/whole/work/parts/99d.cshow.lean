-- ===== the class: what a foe shows: counting =====
theorem sCB_rem {f f' : Nat → Bool} {y : Nat} (hy : f y = true) (hy' : f' y = false) (h : ∀ x, x ≠ y → f' x = f x) (m : Nat) : (m ≤ y → sCB f m = sCB f' m) ∧ (y < m → sCB f m = sCB f' m + 1) := by
  induction m with
  | zero => exact ⟨fun _ => rfl, fun z => absurd z (Nat.not_lt_zero _)⟩
  | succ m ih =>
    rw [sCB, sCB]
    by_cases c : m = y
    · subst c
      rw [hy, hy', if_pos rfl, if_neg (by decide)]
      have := ih.1 (Nat.le_refl _)
      exact ⟨fun z => by omega, fun _ => by omega⟩
    · rw [h m c]
      refine ⟨fun z => ?_, fun z => ?_⟩
      · rw [ih.1 (by omega)]
      · rw [ih.2 (by omega), Nat.add_right_comm]
theorem sCB_map : ∀ (n : Nat) (f f' : Nat → Bool) (m : Nat) (h : Nat → Nat), (∀ x, x < n → f x = true → h x < m ∧ f' (h x) = true) → (∀ x y, x < n → y < n → f x = true → f y = true → h x = h y → x = y) → sCB f n ≤ sCB f' m := by
  intro n
  induction n with
  | zero => intro f f' m h _ _; exact Nat.zero_le _
  | succ n ih =>
    intro f f' m h h1 h2
    rw [sCB]
    by_cases c : f n = true
    · rw [if_pos c]
      have e := (sCB_rem (f := f') (f' := fup f' (h n) false) (y := h n) (h1 n (Nat.lt_succ_self n) c).2 fup_s (fun x z => fup_n z) m).2 (h1 n (Nat.lt_succ_self n) c).1
      have a := ih f (fup f' (h n) false) m h (fun x hx fx => ⟨(h1 x (by omega) fx).1, by
        rw [fup_n (fun z => by have := h2 x n (by omega) (by omega) fx c z; omega)]
        exact (h1 x (by omega) fx).2⟩) (fun x y hx hy => h2 x y (by omega) (by omega))
      omega
    · rw [if_neg c]
      exact ih f f' m h (fun x hx => h1 x (by omega)) (fun x y hx hy => h2 x y (by omega) (by omega))
theorem sFs_iff {g : zg} {sn : Nat → Bool} {p : Nat} : ∀ n, sFs g sn p n = true ↔ ∀ t, 1 ≤ t → t < n → ¬ (sTP g p t < p ∧ sn (sTP g p t) = true)
  | 0 => ⟨fun _ t _ h => absurd h (Nat.not_lt_zero _), fun _ => rfl⟩
  | n + 1 => by
    rw [sFs]
    by_cases c : n = 0
    · rw [if_pos c]
      exact ⟨fun _ t h1 h2 => by omega, fun _ => rfl⟩
    · rw [if_neg c, Bool.and_eq_true, sFs_iff n]
      constructor
      · rintro ⟨a, b⟩ t h1 h2 z
        by_cases d : t = n
        · subst d
          rw [decide_eq_true z.1, z.2] at b
          cases b
        · exact a t h1 (by omega) z
      · intro a
        refine ⟨fun t h1 h2 => a t h1 (by omega), ?_⟩
        have b := a n (by omega) (by omega)
        by_cases d : sTP g p n < p
        · rw [decide_eq_true d, Bool.true_and]
          cases e : sn (sTP g p n) with
          | false => rfl
          | true => exact absurd ⟨d, e⟩ b
        · rw [decide_eq_false d]
          rfl
theorem sBox_orb {g : zg} (hg : gOk g) {p p' : Nat} (hr : sR g p) (hr' : sR g p') (e : sBox g p = sBox g p') : ∃ t, t < sTurns g ∧ p' = sTP g p t := ⟨tMul (sTurnOf g p) (tInv (sTurnOf g p')), tMul_turns (sTurnOf_lt g p) (tInv_turns (sTurnOf_lt g p')), by
  rw [← gTP_mul hg (sTurnOf_lt g p) (tInv_turns (sTurnOf_lt g p')) hr]
  show p' = sTP g (sBox g p) _
  rw [e]
  exact (gTP_inv hg (sTurnOf_lt g p') hr').symm⟩
def shQ (g : zg) (sn : Nat → Bool) (j p : Nat) : Prop := sn p = true ∧ sWork g p = g 8 ∧ sl g (sBox g p) = j
noncomputable def shL (g : zg) (sn : Nat → Bool) (j : Nat) : Nat := Classical.epsilon fun p => shQ g sn j p ∧ ∀ y, y < p → ¬ shQ g sn j y
/-- as many slots as first positions of boxes -/
theorem sBxc_slots {g : zg} (hg : gOk g) {sn f' : Nat → Bool} (hsn : ∀ p, sn p = true → sR g p) (hf : ∀ j, j < 2423 → (f' j = true ↔ ∃ p, sn p = true ∧ sWork g p = g 8 ∧ sl g (sBox g p) = j)) : sCB f' 2423 = sBxc g sn := by
  have sb : ∀ p, sn p = true → sWork g p = g 8 → sB g (sBox g p) = true := fun p h1 h2 => sB_box hg (hsn p h1) h2
  refine Nat.le_antisymm ?_ ?_
  · have sp : ∀ j, j < 2423 → f' j = true → shQ g sn j (shL g sn j) ∧ ∀ y, y < shL g sn j → ¬ shQ g sn j y := fun j hj hfj => Classical.epsilon_spec (p := fun p => shQ g sn j p ∧ ∀ y, y < p → ¬ shQ g sn j y) (pk_least (shQ g sn j) ((hf j hj).mp hfj))
    refine sCB_map 2423 f' (sBxf g sn) 19683 (shL g sn) (fun j hj hfj => ?_) (fun j k hj hk hfj hfk e => ?_)
    · obtain ⟨⟨q1, q2, q3⟩, q4⟩ := sp j hj hfj
      have hr := hsn _ q1
      refine ⟨sR_lt hg hr, ?_⟩
      unfold sBxf
      rw [q1, decide_eq_true q2, (sFs_iff (sTurns g)).mpr (fun t _ h2 z => q4 _ z.1 ⟨z.2, (gR_turn hg h2 hr).2.1.trans q2, by rw [sBox_turn hg h2 hr]; exact q3⟩)]
      rfl
    · have a := (sp j hj hfj).1.2.2
      have b := (sp k hk hfk).1.2.2
      rw [← a, ← b, e]
  · have un : ∀ p, sBxf g sn p = true → sn p = true ∧ sWork g p = g 8 ∧ ∀ t, 1 ≤ t → t < sTurns g → ¬ (sTP g p t < p ∧ sn (sTP g p t) = true) := fun p h => by
      unfold sBxf at h
      rw [Bool.and_eq_true, Bool.and_eq_true] at h
      exact ⟨h.1, of_decide_eq_true h.2.1, (sFs_iff _).mp h.2.2⟩
    refine sCB_map 19683 (sBxf g sn) f' 2423 (fun p => sl g (sBox g p)) (fun p _ hp => ?_) (fun x y _ _ hx hy e => ?_)
    · obtain ⟨u1, u2, -⟩ := un p hp
      have l := sl_lt hg (sb p u1 u2)
      exact ⟨by omega, (hf _ (by omega)).mpr ⟨p, u1, u2, rfl⟩⟩
    · obtain ⟨u1, u2, u3⟩ := un x hx
      obtain ⟨w1, w2, w3⟩ := un y hy
      have eb := sl_inj (sb x u1 u2) (sb y w1 w2) e
      obtain ⟨t, t1, t2⟩ := sBox_orb hg (hsn x u1) (hsn y w1) eb
      obtain ⟨t', t1', t2'⟩ := sBox_orb hg (hsn y w1) (hsn x u1) eb.symm
      by_cases c : y < x
      · have t0 : 1 ≤ t := by
          by_cases d : t = 0
          · rw [d, sTP_0] at t2
            omega
          · omega
        exact absurd ⟨by rw [← t2]; exact c, by rw [← t2]; exact w1⟩ (u3 t t0 t1)
      · by_cases c2 : x < y
        · have t0 : 1 ≤ t' := by
            by_cases d : t' = 0
            · rw [d, sTP_0] at t2'
              omega
            · omega
          exact absurd ⟨by rw [← t2']; exact c2, by rw [← t2']; exact u1⟩ (w3 t' t0 t1')
        · omega
section
variable {G : zG} {n : Nat} {I : zI} {L : zL} {q : zq} {post : zPo} {g : zg}
theorem k_noteShown0 (h : post none I L (zR1 q)) : zC G (n + 1) 178 [.ref 89, .int (-1)] I L (zR1 q) post := zin0 rfl rfl rfl (b178_0 (And.intro (fun _ => b178_46 h) (fun z => absurd (by decide) z)))
theorem k_noteShown {s : Nat} {T : Int32} (hs : s < 2423) (h6 : I 89 6 = T) (h1 : I 92 s = T → post none I L (zR1 q)) (h0 : I 92 s ≠ T → post none (zup (zup I 92 s T) 89 7 (I 89 7 + 1)) L (zR1 q)) : zC G (n + 1) 178 [.ref 89, .int (nI s)] I L (zR1 q) post := by
  have ec : (nI s).toNatClampNeg = s := nI_clamp (by omega)
  have v : vp_in (nI s) 2423 := vp_in_nI hs (by decide)
  refine zin0 rfl rfl rfl (b178_0 (And.intro (fun z => absurd z (nI_pos (by omega))) (fun _ => pk_le 2423 s (fun z => absurd z (by omega)) (fun _ => And.intro v ?_) rfl rfl (by omega) (by omega))))
  show (I 92 (nI s).toNatClampNeg = I 89 6 → _) ∧ (¬ I 92 (nI s).toNatClampNeg = I 89 6 → _)
  rw [ec, h6]
  refine And.intro (fun z => b178_46 (h1 z)) (fun z => And.intro v (And.intro rfl (b178_46 ?_)))
  rw [ec, h6]
  exact h0 z
end
