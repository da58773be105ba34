-- ===== the worlds at the start =====
theorem uR_far {b : Nat} : ∀ {l : List (Nat × Nat × Nat)}, (l.all fun e => Nat.blt e.2.1 b) = true → ∀ a k, b ≤ k → uR l a k = none
  | [], _, _, _, _ => rfl
  | e :: t, h, a, k, hk => by
    obtain ⟨h1, h2⟩ := Bool.and_eq_true_iff.mp h
    have h1 : e.2.1 < b := Nat.le_of_ble_eq_true h1
    show (bif Nat.beq a e.1 && Nat.beq k e.2.1 then some e.2.2 else uR t a k) = none
    rw [zbeq_f (show k ≠ e.2.1 by omega), Bool.and_false]
    exact uR_far h2 a k hk
theorem lRef_far : (lRef.all fun e => Nat.blt e.2.1 26) = true := by decide +kernel
theorem lRef_hi : (lRef.all fun e => Nat.blt e.1 171 && Nat.ble 40 e.1) = true := by decide +kernel
theorem lRef_near : ∀ o, o < 171 → ∀ k, k < 26 → 40 ≤ o → uR lRef o k = zR1 (none, none, none) o k := by decide +kernel
theorem uR_out {a k : Nat} (h : a < 40 ∨ 171 ≤ a) : ∀ {l : List (Nat × Nat × Nat)}, (l.all fun e => Nat.blt e.1 171 && Nat.ble 40 e.1) = true → uR l a k = none
  | [], _ => rfl
  | e :: t, hl => by
    obtain ⟨h1, h2⟩ := Bool.and_eq_true_iff.mp hl
    obtain ⟨h3, h4⟩ := Bool.and_eq_true_iff.mp h1
    have h3 : e.1 < 171 := Nat.le_of_ble_eq_true h3
    have h4 := Nat.le_of_ble_eq_true h4
    show (bif Nat.beq a e.1 && Nat.beq k e.2.1 then some e.2.2 else uR t a k) = none
    rw [zbeq_f (show a ≠ e.1 by omega)]
    exact uR_out h h2
theorem zR1_out : ∀ j k, zR1 (none, none, none) (j + 171) k = none := fun _ _ => rfl
theorem zR1_far_40 : ∀ j k, j < 16 → zR1 (none, none, none) (j + 40) (k + 26) = none
  | 0, _, _ => rfl
  | 1, _, _ => rfl
  | 2, _, _ => rfl
  | 3, _, _ => rfl
  | 4, _, _ => rfl
  | 5, _, _ => rfl
  | 6, _, _ => rfl
  | 7, _, _ => rfl
  | 8, _, _ => rfl
  | 9, _, _ => rfl
  | 10, _, _ => rfl
  | 11, _, _ => rfl
  | 12, _, _ => rfl
  | 13, _, _ => rfl
  | 14, _, _ => rfl
  | 15, _, _ => rfl
  | j + 16, _, h => absurd h (by omega)
theorem zR1_far_56 : ∀ j k, j < 16 → zR1 (none, none, none) (j + 56) (k + 26) = none
  | 0, _, _ => rfl
  | 1, _, _ => rfl
  | 2, _, _ => rfl
  | 3, _, _ => rfl
  | 4, _, _ => rfl
  | 5, _, _ => rfl
  | 6, _, _ => rfl
  | 7, _, _ => rfl
  | 8, _, _ => rfl
  | 9, _, _ => rfl
  | 10, _, _ => rfl
  | 11, _, _ => rfl
  | 12, _, _ => rfl
  | 13, _, _ => rfl
  | 14, _, _ => rfl
  | 15, _, _ => rfl
  | j + 16, _, h => absurd h (by omega)
theorem zR1_far_72 : ∀ j k, j < 16 → zR1 (none, none, none) (j + 72) (k + 26) = none
  | 0, _, _ => rfl
  | 1, _, _ => rfl
  | 2, _, _ => rfl
  | 3, _, _ => rfl
  | 4, _, _ => rfl
  | 5, _, _ => rfl
  | 6, _, _ => rfl
  | 7, _, _ => rfl
  | 8, _, _ => rfl
  | 9, _, _ => rfl
  | 10, _, _ => rfl
  | 11, _, _ => rfl
  | 12, _, _ => rfl
  | 13, _, _ => rfl
  | 14, _, _ => rfl
  | 15, _, _ => rfl
  | j + 16, _, h => absurd h (by omega)
theorem zR1_far_88 : ∀ j k, j < 16 → zR1 (none, none, none) (j + 88) (k + 26) = none
  | 0, _, _ => rfl
  | 1, _, _ => rfl
  | 2, _, _ => rfl
  | 3, _, _ => rfl
  | 4, _, _ => rfl
  | 5, _, _ => rfl
  | 6, _, _ => rfl
  | 7, _, _ => rfl
  | 8, _, _ => rfl
  | 9, _, _ => rfl
  | 10, _, _ => rfl
  | 11, _, _ => rfl
  | 12, _, _ => rfl
  | 13, _, _ => rfl
  | 14, _, _ => rfl
  | 15, _, _ => rfl
  | j + 16, _, h => absurd h (by omega)
theorem zR1_far_104 : ∀ j k, j < 16 → zR1 (none, none, none) (j + 104) (k + 26) = none
  | 0, _, _ => rfl
  | 1, _, _ => rfl
  | 2, _, _ => rfl
  | 3, _, _ => rfl
  | 4, _, _ => rfl
  | 5, _, _ => rfl
  | 6, _, _ => rfl
  | 7, _, _ => rfl
  | 8, _, _ => rfl
  | 9, _, _ => rfl
  | 10, _, _ => rfl
  | 11, _, _ => rfl
  | 12, _, _ => rfl
  | 13, _, _ => rfl
  | 14, _, _ => rfl
  | 15, _, _ => rfl
  | j + 16, _, h => absurd h (by omega)
theorem zR1_far_120 : ∀ j k, j < 16 → zR1 (none, none, none) (j + 120) (k + 26) = none
  | 0, _, _ => rfl
  | 1, _, _ => rfl
  | 2, _, _ => rfl
  | 3, _, _ => rfl
  | 4, _, _ => rfl
  | 5, _, _ => rfl
  | 6, _, _ => rfl
  | 7, _, _ => rfl
  | 8, _, _ => rfl
  | 9, _, _ => rfl
  | 10, _, _ => rfl
  | 11, _, _ => rfl
  | 12, _, _ => rfl
  | 13, _, _ => rfl
  | 14, _, _ => rfl
  | 15, _, _ => rfl
  | j + 16, _, h => absurd h (by omega)
theorem zR1_far_136 : ∀ j k, j < 16 → zR1 (none, none, none) (j + 136) (k + 26) = none
  | 0, _, _ => rfl
  | 1, _, _ => rfl
  | 2, _, _ => rfl
  | 3, _, _ => rfl
  | 4, _, _ => rfl
  | 5, _, _ => rfl
  | 6, _, _ => rfl
  | 7, _, _ => rfl
  | 8, _, _ => rfl
  | 9, _, _ => rfl
  | 10, _, _ => rfl
  | 11, _, _ => rfl
  | 12, _, _ => rfl
  | 13, _, _ => rfl
  | 14, _, _ => rfl
  | 15, _, _ => rfl
  | j + 16, _, h => absurd h (by omega)
theorem zR1_far_152 : ∀ j k, j < 16 → zR1 (none, none, none) (j + 152) (k + 26) = none
  | 0, _, _ => rfl
  | 1, _, _ => rfl
  | 2, _, _ => rfl
  | 3, _, _ => rfl
  | 4, _, _ => rfl
  | 5, _, _ => rfl
  | 6, _, _ => rfl
  | 7, _, _ => rfl
  | 8, _, _ => rfl
  | 9, _, _ => rfl
  | 10, _, _ => rfl
  | 11, _, _ => rfl
  | 12, _, _ => rfl
  | 13, _, _ => rfl
  | 14, _, _ => rfl
  | 15, _, _ => rfl
  | j + 16, _, h => absurd h (by omega)
theorem zR1_far_168 : ∀ j k, j < 3 → zR1 (none, none, none) (j + 168) (k + 26) = none
  | 0, _, _ => rfl
  | 1, _, _ => rfl
  | 2, _, _ => rfl
  | j + 3, _, h => absurd h (by omega)
theorem zR1_far {o k : Nat} (h1 : 40 ≤ o) (h2 : 26 ≤ k) : zR1 (none, none, none) o k = none := by
  obtain ⟨k', rfl⟩ : ∃ k', k = k' + 26 := ⟨k - 26, by omega⟩
  by_cases c40 : o < 56
  · obtain ⟨j, rfl⟩ : ∃ j, o = j + 40 := ⟨o - 40, by omega⟩
    exact zR1_far_40 j k' (by omega)
  by_cases c56 : o < 72
  · obtain ⟨j, rfl⟩ : ∃ j, o = j + 56 := ⟨o - 56, by omega⟩
    exact zR1_far_56 j k' (by omega)
  by_cases c72 : o < 88
  · obtain ⟨j, rfl⟩ : ∃ j, o = j + 72 := ⟨o - 72, by omega⟩
    exact zR1_far_72 j k' (by omega)
  by_cases c88 : o < 104
  · obtain ⟨j, rfl⟩ : ∃ j, o = j + 88 := ⟨o - 88, by omega⟩
    exact zR1_far_88 j k' (by omega)
  by_cases c104 : o < 120
  · obtain ⟨j, rfl⟩ : ∃ j, o = j + 104 := ⟨o - 104, by omega⟩
    exact zR1_far_104 j k' (by omega)
  by_cases c120 : o < 136
  · obtain ⟨j, rfl⟩ : ∃ j, o = j + 120 := ⟨o - 120, by omega⟩
    exact zR1_far_120 j k' (by omega)
  by_cases c136 : o < 152
  · obtain ⟨j, rfl⟩ : ∃ j, o = j + 136 := ⟨o - 136, by omega⟩
    exact zR1_far_136 j k' (by omega)
  by_cases c152 : o < 168
  · obtain ⟨j, rfl⟩ : ∃ j, o = j + 152 := ⟨o - 152, by omega⟩
    exact zR1_far_152 j k' (by omega)
  by_cases c168 : o < 171
  · obtain ⟨j, rfl⟩ : ∃ j, o = j + 168 := ⟨o - 168, by omega⟩
    exact zR1_far_168 j k' (by omega)
  obtain ⟨j, rfl⟩ : ∃ j, o = j + 171 := ⟨o - 171, by omega⟩
  exact zR1_out j _
theorem lRef_eq {o k : Nat} (h : 40 ≤ o) : uR lRef o k = zR1 (none, none, none) o k := by
  by_cases h1 : o < 171
  · by_cases h2 : k < 26
    · exact lRef_near o h1 k h2 h
    · rw [uR_far lRef_far o k (by omega), zR1_far h (by omega)]
  · rw [uR_out (Or.inr (by omega)) lRef_hi]
    obtain ⟨j, rfl⟩ : ∃ j, o = j + 171 := ⟨o - 171, by omega⟩
    exact (zR1_out j k).symm
theorem lRef_0 (k : Nat) : uR lRef 0 k = none := uR_out (Or.inl (by decide)) lRef_hi
theorem lIni_0 (k : Nat) : uI lIni 0 k = 0 := uI_no (by decide)
theorem lIni_z {o : Nat} (k : Nat) (h : uNo o lIni = true) : uI lIni o k = 0 := uI_no h
theorem kZ0 : kZ sg0 (uI lIni) := ⟨⟨⟨by decide, by decide, by decide, by decide, by decide, by decide, by decide, by decide, by decide⟩, rfl, rfl, fun _ => ⟨rfl, rfl, rfl⟩, fun h => absurd h (by decide)⟩, rfl, rfl, Or.inl rfl, Or.inl rfl⟩
theorem wC0 : wC sg0 (cClr sc0) (fun _ => 4) 0 (fun _ _ => 0, fun _ _ => false, fun _ => 0) none 0 (fun _ => default) (fun _ => 0) (fun _ => 0) 0 (fun _ => false) (fun _ => sc0) [] [] 0 (uI lIni) z0 := by
  refine ⟨kZ0, ⟨⟨Or.inr ⟨3, by decide, by decide, rfl⟩, Or.inr ⟨3, by decide, by decide, rfl⟩, Or.inr ⟨3, by decide, by decide, rfl⟩⟩, ⟨rfl, by decide, rfl, by decide, fun j hj => absurd hj (by omega)⟩⟩, ?_, ?_, ?_, ?_, ?_, ?_, ?_, ?_, ?_, ?_⟩
  · exact ⟨fun b _ => ⟨lIni_z _ (by decide), fun k _ => lIni_z _ (by decide)⟩, fun j _ _ => ⟨lIni_z _ (by decide), fun k _ => lIni_z _ (by decide)⟩, rfl, rfl, rfl⟩
  · intro i hi
    refine ⟨?_, fun z => by cases z⟩
    show uI lIni (98 + 3 * i) 5 = 0
    revert i
    decide
  · intro s hs
    refine ⟨?_, by show 4 ≤ 20; decide⟩
    show uI lIni 69 s = nI 4
    revert s
    decide
  · exact ⟨by decide, rfl, rfl, fun r hr => (by cases hr), fun r hr => absurd hr (by omega)⟩
  · exact ⟨by decide, rfl, fun f hf => absurd hf (by omega)⟩
  · decide
  · exact ⟨rfl, rfl, rfl, rfl⟩
  · exact ⟨rfl, by decide, fun j wt h => (by cases h)⟩
  · exact ⟨rfl, by decide, fun i x h => (by cases h)⟩
  · exact ⟨rfl, fun x _ => ⟨0, Nat.le_refl _, lIni_z _ (by decide)⟩, fun x _ => ⟨0, Nat.le_refl _, lIni_z _ (by decide)⟩⟩
theorem wB0 {I' : zI} (h1 : mG sg0 I') (h2 : mPos sg0 I') (h3 : mC (cClr sc0) I') (h4 : ∀ i, i < 3 → I' 29 i = 0) (hf : zFr tB (sIni (uI lIni)) I') : wB sg0 (cClr sc0) (fun _ => 4) 0 (fun _ _ => 0, fun _ _ => false, fun _ => 0) none 0 (fun _ => default) (fun _ => 0) (fun _ => 0) 0 (fun _ => false) (fun _ => sc0) [] [] 0 I' (sInL z0) := by
  have hh : ∀ o, 40 ≤ o → I' o = uI lIni o := fun o ho => funext fun k => by
    have ht : ∀ d k, tB (d + 40) k = false := fun _ _ => rfl
    rw [hf o k (by obtain ⟨d, rfl⟩ : ∃ d, o = d + 40 := ⟨o - 40, by omega⟩; exact ht d k)]
    have e := sIni_hi (I := uI lIni) (o := o) (k := k) (x := false) ho
    rw [Bool.and_false] at e
    exact e
  refine ⟨⟨⟨h1, h2⟩, ⟨h3, cIn_clr cAll0⟩, ?_, ?_, ?_, ?_, ?_, ⟨h4, fun i _ z => (by cases z)⟩, ?_, ?_, ?_⟩, ?_⟩
  · intro s hs
    refine ⟨?_, by show 4 ≤ 20; decide⟩
    rw [hf 6 s rfl]
    show (bif Nat.blt s 21 then (4 : Int32) else 0) = 4
    rw [Nat.ble_eq_true_of_le (show s + 1 ≤ 21 by omega) |> (fun z => (show Nat.blt s 21 = true from z))]
    rfl
  · exact ⟨by decide, by rw [hf 0 18 rfl]; rfl, by rw [hf 0 22 rfl]; rfl, fun r hr => (by cases hr), fun r hr => absurd hr (by omega)⟩
  · exact ⟨by decide, by rw [hf 0 23 rfl]; rfl, fun f hf => absurd hf (by omega)⟩
  · intro k hk
    rw [hf 15 k rfl]
    rfl
  · exact ⟨by rw [hf 0 31 rfl]; rfl, by decide, fun j hj => absurd hj (by omega)⟩
  · exact ⟨by decide, by rw [hf 0 66 rfl]; rfl, fun j wt h => (by cases h)⟩
  · exact ⟨⟨by rw [hf 0 33 rfl]; rfl, fun i x h => (by cases h)⟩, by decide⟩
  · rw [hf 0 35 rfl]
    rfl
  · exact wC_hi wC0 hh (funext fun k => rfl)
