-- ===== the reference's constructor; the JDK's fills =====
theorem zin00 {G : zG} {y n N0 E : Nat} {as : List Value} {I : zI} {L : zL} {R : zR} {post : zPo} {lv : zLv} (hG : G.2.2.2.2.2 = true) (hy : Nat.blt y znm = true) (hN : Nat.ble N0 E = true) (hE : Nat.ble E zNN = true) (hw : Nat.ble (zwd as) (zml y) = true) (hlv : zpd (zml y) (zpa as) = lv) (h : zP G y n N0 E post 0 lv [] N0 I L R) : zCon G (n + 1) y N0 E as I L R post := zenter (Nat.le_of_ble_eq_true hy) (Nat.le_of_ble_eq_true hN) (Nat.le_of_ble_eq_true hE) (fun z => by rw [hG] at z; cases z) hw hlv h
theorem zble_f {a b : Nat} (h : b < a) : Nat.ble a b = false := by
  cases z : Nat.ble a b with
  | false => rfl
  | true => exact absurd (Nat.le_of_ble_eq_true z) (by omega)
theorem zble_g {a b : Nat} (h : Nat.ble a b = false) : b < a := by
  by_cases z : a ≤ b
  · rw [Nat.ble_eq_true_of_le z] at h; cases h
  · omega
theorem zup_hi {α : Type} {f : Nat → Nat → α} {o k a c m : Nat} {v : α} (h : m ≤ a) (ho : Nat.blt o m = true) : zup f o k v a c = f a c := by
  have ho : o < m := Nat.le_of_ble_eq_true ho
  rw [zup_ne (by omega)]
theorem zrow_hi {α : Type} {f : Nat → Nat → α} {o a c m : Nat} {g : Nat → α} (h : m ≤ a) (ho : Nat.blt o m = true) : zrow f o g a c = f a c := by
  have ho : o < m := Nat.le_of_ble_eq_true ho
  rw [zrow_ne (by omega)]
theorem zup_far {α : Type} {f : Nat → Nat → α} {o k c m : Nat} {v : α} (h : m ≤ c) (hk : Nat.blt k m = true) : zup f o k v o c = f o c := by
  have hk : k < m := Nat.le_of_ble_eq_true hk
  rw [zup_eq, if_neg (by omega)]
theorem zrow_ow {α : Type} {f : Nat → Nat → α} {o a c : Nat} {g : Nat → α} (h : Nat.beq a o = false) : zrow f o g a c = f a c := by
  have h : a ≠ o := fun z => by rw [z] at h; exact absurd (Nat.beq_refl o) (by rw [h]; decide)
  rw [zrow_ne h]
theorem zP_cast {G : zG} {y n N0 E : Nat} {post : zPo} {pc pc' : Nat} {lv lv' : zLv} {st : List Value} {N N' : Nat} {I : zI} {L : zL} {R : zR} (h1 : pc = pc') (h2 : N = N') (h3 : lv = lv') (h : zP G y n N0 E post pc' lv' st N' I L R) : zP G y n N0 E post pc lv st N I L R := by
  subst h1
  subst h2
  subst h3
  exact h
/-- the reference's own cells, as they are made -/
def sIn0 (k : Nat) : Int32 := bif Nat.beq k 1 || Nat.beq k 2 || Nat.beq k 3 then 3 else bif Nat.beq k 5 || Nat.beq k 6 || Nat.beq k 7 || Nat.beq k 16 then 1 else bif Nat.beq k 14 then 10000 else bif Nat.beq k 22 then -1 else 0
def sIni (I : zI) : zI := fun o k => bif Nat.blt o 40 then (bif Nat.beq o 0 then sIn0 k else bif Nat.beq o 6 && Nat.blt k 21 then 4 else 0) else I o k
def sInL (L : zL) : zL := fun o k => bif Nat.blt o 40 then 0 else L o k
theorem zblt_f {a b : Nat} (h : b ≤ a) : Nat.blt a b = false := zble_f (by omega)
theorem zbeq_f {a b : Nat} (h : a ≠ b) : Nat.beq a b = false := by
  cases z : Nat.beq a b with
  | false => rfl
  | true => exact absurd (Nat.eq_of_beq_eq_true z) h
theorem sInL_hi {L : zL} {o k : Nat} (h : 40 ≤ o) : sInL L o k = L o k := by
  unfold sInL
  rw [zblt_f h]
  rfl
theorem sIni_hi {I : zI} {o k : Nat} {x : Bool} (h : 40 ≤ o) : (bif Nat.beq o 6 && x then 0 else sIni I o k) = I o k := by
  unfold sIni
  rw [zblt_f h, zbeq_f (show o ≠ 6 by omega)]
  rfl
def sg0 : zg := fun k => bif Nat.beq k 1 || Nat.beq k 2 || Nat.beq k 3 then 3 else bif Nat.beq k 5 || Nat.beq k 6 || Nat.beq k 7 then 1 else 0
def sc0 : sC := (fun _ => 0, fun _ => false, 10000, 0, 1)
theorem sSum_0 : ∀ n, sSum (fun _ => 0) n = 0 := by
  intro n
  induction n with
  | zero => rfl
  | succ n ih => show sSum (fun _ => 0) n + 0 = 0; rw [ih]
theorem cAll_of {c : sC} (h1 : sSum c.1 177147 = 0) (h2 : c.2.2.1 = 10000) (h3 : c.2.2.2.1 = 0) : cAll c := by
  unfold cAll
  rw [h1, h2, h3]
theorem cAll0 : cAll sc0 := cAll_of (c := sc0) (sSum_0 _) rfl rfl
theorem cEmp0 : cEmp sc0 := fun _ _ _ _ => rfl
section
variable {G : zG} {n : Nat} {I : zI} {L : zL} {R : zR} {q : zq} {post : zPo}
theorem c_init0 (hG : G.2.2.2.2.2 = true) (hI : ∀ k, I 0 k = 0) (hL : ∀ k, L 0 k = 0) (hR : ∀ k, R 0 k = none) (hR1 : ∀ o k, 40 ≤ o → R o k = zR1 q o k) (h : ∀ I' : zI, mG sg0 I' → mPos sg0 I' → mC (cClr sc0) I' → (∀ i, i < 3 → I' 29 i = 0) → zFr tB (sIni I) I' → post none I' (sInL L) (zR1 q)) : zCon G (n + 29) 0 132 zNN [.ref 0] I L R post := by
  have fin : ∀ (R3 : zR) (L3 : zL), R3 = zR1 q → L3 = sInL L → ∀ j i : Nat, i + j = 21 → ∀ K : zI, (∀ o k, K o k = bif Nat.beq o 6 && (Nat.ble i k && Nat.blt k 21) then 0 else sIni I o k) → zP G 0 (n + 28) 132 zNN post 370 [some (.ref 0), some (.int (nI i))] [] zNN K L3 R3 := by
    intro R3 L3 eR eL j
    subst eR
    subst eL
    induction j with
    | zero =>
      intro i hi K hK
      have hK' : ∀ o k, K o k = sIni I o k := fun o k => by
        rw [hK o k]
        have e : (Nat.beq o 6 && (Nat.ble i k && Nat.blt k 21)) = false := by
          cases z : (Nat.ble i k && Nat.blt k 21) with
          | false => exact Bool.and_false _
          | true =>
            obtain ⟨z1, z2⟩ := Bool.and_eq_true_iff.mp z
            have := Nat.le_of_ble_eq_true z1
            have : k < 21 := Nat.le_of_ble_eq_true z2
            omega
        rw [e]
        rfl
      have eK : K = sIni I := funext fun o => funext fun k => hK' o k
      subst eK
      refine b0_370 (pk_le 21 i (fun _ => b0_389 ?_) (fun z => absurd z (by omega)) rfl rfl (by omega) (by omega))
      show zC G (n + 28) 41 [.ref 0] (sIni I) (sInL L) (zR1 q) _
      refine c_begin (c := sc0) (g := sg0) ⟨⟨by decide, by decide, by decide, by decide, by decide, by decide, by decide, by decide, by decide⟩, ?_⟩ ⟨fun k _ => rfl, fun k _ => rfl, rfl, rfl, rfl⟩ cAll0 cEmp0 fun I' h1 h2 h3 h4 h5 => h I' h1 h2 h3 h4 h5
      intro k hk
      show sIn0 k = nI (sg0 k)
      revert k
      decide
    | succ j ih =>
      intro i hi K hK
      refine b0_370 (pk_le 21 i (fun z => absurd z (by omega)) (fun _ => And.intro (vp_in_nI (by omega) (by decide)) ?_) rfl rfl (by omega) (by omega))
      have qq := ih (i + 1) (by omega) (zup K 6 (nI i).toNatClampNeg 4) fun o k => ?_
      · rw [← nI_1] at qq
        exact qq
      · rw [nI_clamp (by omega)]
        by_cases e1 : o = 6
        · subst e1
          rw [zup_eq]
          by_cases e2 : k = i
          · subst e2
            have z1 : Nat.ble (k + 1) k = false := zble_f (by omega)
            have z2 : Nat.blt k 21 = true := Nat.ble_eq_true_of_le (by omega)
            rw [if_pos rfl, z1, z2]
            show (4 : Int32) = sIni I 6 k
            unfold sIni
            rw [z2]
            rfl
          · rw [if_neg e2, hK 6 k]
            have z3 : Nat.ble (i + 1) k = Nat.ble i k := by
              cases z : Nat.ble i k with
              | true =>
                have := Nat.le_of_ble_eq_true z
                exact Nat.ble_eq_true_of_le (by omega)
              | false =>
                have := zble_g z
                exact zble_f (by omega)
            rw [z3]
        · rw [zup_ne e1, hK o k]
          have z4 : Nat.beq o 6 = false := by
            cases z : Nat.beq o 6 with
            | false => rfl
            | true => exact absurd (Nat.eq_of_beq_eq_true z) e1
          rw [z4]
          rfl
  refine zin00 hG rfl rfl rfl rfl rfl (b0_0 ?_)
  iterate 40 refine And.intro ⟨by decide, by decide⟩ ?_
  refine zP_cast (pc' := 370) (N' := zNN) (lv' := [some (.ref 0), some (.int (nI 0))]) ?_ ?_ rfl ?_
  · decide +kernel
  · decide +kernel
  refine fin _ _ (funext fun o => funext fun k => ?_) (funext fun o => funext fun k => ?_) 21 0 rfl _ (fun o k => ?_)
  · rcases Nat.lt_or_ge o 40 with hlt | hge
    · match o, hlt with
      | 0, _ =>
        match k with
        | 0 => first | exact rfl | exact hR _
        | 1 => first | exact rfl | exact hR _
        | 2 => first | exact rfl | exact hR _
        | 3 => first | exact rfl | exact hR _
        | 4 => first | exact rfl | exact hR _
        | 5 => first | exact rfl | exact hR _
        | 6 => first | exact rfl | exact hR _
        | 7 => first | exact rfl | exact hR _
        | 8 => first | exact rfl | exact hR _
        | 9 => first | exact rfl | exact hR _
        | 10 => first | exact rfl | exact hR _
        | 11 => first | exact rfl | exact hR _
        | 12 => first | exact rfl | exact hR _
        | 13 => first | exact rfl | exact hR _
        | 14 => first | exact rfl | exact hR _
        | 15 => first | exact rfl | exact hR _
        | 16 => first | exact rfl | exact hR _
        | 17 => first | exact rfl | exact hR _
        | 18 => first | exact rfl | exact hR _
        | 19 => first | exact rfl | exact hR _
        | 20 => first | exact rfl | exact hR _
        | 21 => first | exact rfl | exact hR _
        | 22 => first | exact rfl | exact hR _
        | 23 => first | exact rfl | exact hR _
        | 24 => first | exact rfl | exact hR _
        | 25 => first | exact rfl | exact hR _
        | 26 => first | exact rfl | exact hR _
        | 27 => first | exact rfl | exact hR _
        | 28 => first | exact rfl | exact hR _
        | 29 => first | exact rfl | exact hR _
        | 30 => first | exact rfl | exact hR _
        | 31 => first | exact rfl | exact hR _
        | 32 => first | exact rfl | exact hR _
        | 33 => first | exact rfl | exact hR _
        | 34 => first | exact rfl | exact hR _
        | 35 => first | exact rfl | exact hR _
        | 36 => first | exact rfl | exact hR _
        | 37 => first | exact rfl | exact hR _
        | 38 => first | exact rfl | exact hR _
        | 39 => first | exact rfl | exact hR _
        | 40 => first | exact rfl | exact hR _
        | 41 => first | exact rfl | exact hR _
        | 42 => first | exact rfl | exact hR _
        | 43 => first | exact rfl | exact hR _
        | 44 => first | exact rfl | exact hR _
        | 45 => first | exact rfl | exact hR _
        | 46 => first | exact rfl | exact hR _
        | 47 => first | exact rfl | exact hR _
        | 48 => first | exact rfl | exact hR _
        | 49 => first | exact rfl | exact hR _
        | 50 => first | exact rfl | exact hR _
        | 51 => first | exact rfl | exact hR _
        | 52 => first | exact rfl | exact hR _
        | 53 => first | exact rfl | exact hR _
        | 54 => first | exact rfl | exact hR _
        | 55 => first | exact rfl | exact hR _
        | 56 => first | exact rfl | exact hR _
        | 57 => first | exact rfl | exact hR _
        | 58 => first | exact rfl | exact hR _
        | 59 => first | exact rfl | exact hR _
        | 60 => first | exact rfl | exact hR _
        | 61 => first | exact rfl | exact hR _
        | 62 => first | exact rfl | exact hR _
        | 63 => first | exact rfl | exact hR _
        | 64 => first | exact rfl | exact hR _
        | 65 => first | exact rfl | exact hR _
        | 66 => first | exact rfl | exact hR _
        | 67 => first | exact rfl | exact hR _
        | 68 => first | exact rfl | exact hR _
        | 69 => first | exact rfl | exact hR _
        | 70 => first | exact rfl | exact hR _
        | k + 71 =>
          have hf : 71 ≤ k + 71 := Nat.le_add_left _ _
          repeat first
            | (refine Eq.trans (zup_far hf ?_) ?_; exact rfl)
            | (refine Eq.trans (zrow_ow ?_) ?_; exact rfl)
          exact hR _
      | 1, _ => exact rfl
      | 2, _ => exact rfl
      | 3, _ => exact rfl
      | 4, _ => exact rfl
      | 5, _ => exact rfl
      | 6, _ => exact rfl
      | 7, _ => exact rfl
      | 8, _ => exact rfl
      | 9, _ => exact rfl
      | 10, _ => exact rfl
      | 11, _ => exact rfl
      | 12, _ => exact rfl
      | 13, _ => exact rfl
      | 14, _ => exact rfl
      | 15, _ => exact rfl
      | 16, _ => exact rfl
      | 17, _ => exact rfl
      | 18, _ => exact rfl
      | 19, _ => exact rfl
      | 20, _ => exact rfl
      | 21, _ => exact rfl
      | 22, _ => exact rfl
      | 23, _ => exact rfl
      | 24, _ => exact rfl
      | 25, _ => exact rfl
      | 26, _ => exact rfl
      | 27, _ => exact rfl
      | 28, _ => exact rfl
      | 29, _ => exact rfl
      | 30, _ => exact rfl
      | 31, _ => exact rfl
      | 32, _ => exact rfl
      | 33, _ => exact rfl
      | 34, _ => exact rfl
      | 35, _ => exact rfl
      | 36, _ => exact rfl
      | 37, _ => exact rfl
      | 38, _ => exact rfl
      | 39, _ => exact rfl
      | o + 40, hlt => exact absurd hlt (by omega)
    · repeat first
        | (refine Eq.trans (zup_hi hge ?_) ?_; exact rfl)
        | (refine Eq.trans (zrow_hi hge ?_) ?_; exact rfl)
      exact hR1 o k hge
  · rcases Nat.lt_or_ge o 40 with hlt | hge
    · match o, hlt with
      | 0, _ =>
        repeat (refine Eq.trans (zrow_ow ?_) ?_; exact rfl)
        exact hL _
      | 1, _ => exact rfl
      | 2, _ => exact rfl
      | 3, _ => exact rfl
      | 4, _ => exact rfl
      | 5, _ => exact rfl
      | 6, _ => exact rfl
      | 7, _ => exact rfl
      | 8, _ => exact rfl
      | 9, _ => exact rfl
      | 10, _ => exact rfl
      | 11, _ => exact rfl
      | 12, _ => exact rfl
      | 13, _ => exact rfl
      | 14, _ => exact rfl
      | 15, _ => exact rfl
      | 16, _ => exact rfl
      | 17, _ => exact rfl
      | 18, _ => exact rfl
      | 19, _ => exact rfl
      | 20, _ => exact rfl
      | 21, _ => exact rfl
      | 22, _ => exact rfl
      | 23, _ => exact rfl
      | 24, _ => exact rfl
      | 25, _ => exact rfl
      | 26, _ => exact rfl
      | 27, _ => exact rfl
      | 28, _ => exact rfl
      | 29, _ => exact rfl
      | 30, _ => exact rfl
      | 31, _ => exact rfl
      | 32, _ => exact rfl
      | 33, _ => exact rfl
      | 34, _ => exact rfl
      | 35, _ => exact rfl
      | 36, _ => exact rfl
      | 37, _ => exact rfl
      | 38, _ => exact rfl
      | 39, _ => exact rfl
      | o + 40, hlt => exact absurd hlt (by omega)
    · repeat first
        | (refine Eq.trans (zup_hi hge ?_) ?_; exact rfl)
        | (refine Eq.trans (zrow_hi hge ?_) ?_; exact rfl)
      exact (sInL_hi hge).symm
  · rcases Nat.lt_or_ge o 40 with hlt | hge
    · match o, hlt with
      | 0, _ =>
        match k with
        | 0 => first | exact rfl | exact hI _
        | 1 => first | exact rfl | exact hI _
        | 2 => first | exact rfl | exact hI _
        | 3 => first | exact rfl | exact hI _
        | 4 => first | exact rfl | exact hI _
        | 5 => first | exact rfl | exact hI _
        | 6 => first | exact rfl | exact hI _
        | 7 => first | exact rfl | exact hI _
        | 8 => first | exact rfl | exact hI _
        | 9 => first | exact rfl | exact hI _
        | 10 => first | exact rfl | exact hI _
        | 11 => first | exact rfl | exact hI _
        | 12 => first | exact rfl | exact hI _
        | 13 => first | exact rfl | exact hI _
        | 14 => first | exact rfl | exact hI _
        | 15 => first | exact rfl | exact hI _
        | 16 => first | exact rfl | exact hI _
        | 17 => first | exact rfl | exact hI _
        | 18 => first | exact rfl | exact hI _
        | 19 => first | exact rfl | exact hI _
        | 20 => first | exact rfl | exact hI _
        | 21 => first | exact rfl | exact hI _
        | 22 => first | exact rfl | exact hI _
        | 23 => first | exact rfl | exact hI _
        | 24 => first | exact rfl | exact hI _
        | 25 => first | exact rfl | exact hI _
        | 26 => first | exact rfl | exact hI _
        | 27 => first | exact rfl | exact hI _
        | 28 => first | exact rfl | exact hI _
        | 29 => first | exact rfl | exact hI _
        | 30 => first | exact rfl | exact hI _
        | 31 => first | exact rfl | exact hI _
        | 32 => first | exact rfl | exact hI _
        | 33 => first | exact rfl | exact hI _
        | 34 => first | exact rfl | exact hI _
        | 35 => first | exact rfl | exact hI _
        | 36 => first | exact rfl | exact hI _
        | 37 => first | exact rfl | exact hI _
        | 38 => first | exact rfl | exact hI _
        | 39 => first | exact rfl | exact hI _
        | 40 => first | exact rfl | exact hI _
        | 41 => first | exact rfl | exact hI _
        | 42 => first | exact rfl | exact hI _
        | 43 => first | exact rfl | exact hI _
        | 44 => first | exact rfl | exact hI _
        | 45 => first | exact rfl | exact hI _
        | 46 => first | exact rfl | exact hI _
        | 47 => first | exact rfl | exact hI _
        | 48 => first | exact rfl | exact hI _
        | 49 => first | exact rfl | exact hI _
        | 50 => first | exact rfl | exact hI _
        | 51 => first | exact rfl | exact hI _
        | 52 => first | exact rfl | exact hI _
        | 53 => first | exact rfl | exact hI _
        | 54 => first | exact rfl | exact hI _
        | 55 => first | exact rfl | exact hI _
        | 56 => first | exact rfl | exact hI _
        | 57 => first | exact rfl | exact hI _
        | 58 => first | exact rfl | exact hI _
        | 59 => first | exact rfl | exact hI _
        | 60 => first | exact rfl | exact hI _
        | 61 => first | exact rfl | exact hI _
        | 62 => first | exact rfl | exact hI _
        | 63 => first | exact rfl | exact hI _
        | 64 => first | exact rfl | exact hI _
        | 65 => first | exact rfl | exact hI _
        | 66 => first | exact rfl | exact hI _
        | 67 => first | exact rfl | exact hI _
        | 68 => first | exact rfl | exact hI _
        | 69 => first | exact rfl | exact hI _
        | 70 => first | exact rfl | exact hI _
        | k + 71 =>
          have hf : 71 ≤ k + 71 := Nat.le_add_left _ _
          repeat first
            | (refine Eq.trans (zup_far hf ?_) ?_; exact rfl)
            | (refine Eq.trans (zrow_ow ?_) ?_; exact rfl)
          exact hI _
      | 1, _ => exact rfl
      | 2, _ => exact rfl
      | 3, _ => exact rfl
      | 4, _ => exact rfl
      | 5, _ => exact rfl
      | 6, _ =>
        show (0 : Int32) = bif (Nat.ble 0 k && Nat.blt k 21) then 0 else bif Nat.blt k 21 then 4 else 0
        rw [show Nat.ble 0 k = true from Nat.ble_eq_true_of_le (Nat.zero_le _)]
        cases Nat.blt k 21 <;> rfl
      | 7, _ => exact rfl
      | 8, _ => exact rfl
      | 9, _ => exact rfl
      | 10, _ => exact rfl
      | 11, _ => exact rfl
      | 12, _ => exact rfl
      | 13, _ => exact rfl
      | 14, _ => exact rfl
      | 15, _ => exact rfl
      | 16, _ => exact rfl
      | 17, _ => exact rfl
      | 18, _ => exact rfl
      | 19, _ => exact rfl
      | 20, _ => exact rfl
      | 21, _ => exact rfl
      | 22, _ => exact rfl
      | 23, _ => exact rfl
      | 24, _ => exact rfl
      | 25, _ => exact rfl
      | 26, _ => exact rfl
      | 27, _ => exact rfl
      | 28, _ => exact rfl
      | 29, _ => exact rfl
      | 30, _ => exact rfl
      | 31, _ => exact rfl
      | 32, _ => exact rfl
      | 33, _ => exact rfl
      | 34, _ => exact rfl
      | 35, _ => exact rfl
      | 36, _ => exact rfl
      | 37, _ => exact rfl
      | 38, _ => exact rfl
      | 39, _ => exact rfl
      | o + 40, hlt => exact absurd hlt (by omega)
    · repeat first
        | (refine Eq.trans (zup_hi hge ?_) ?_; exact rfl)
        | (refine Eq.trans (zrow_hi hge ?_) ?_; exact rfl)
      exact (sIni_hi hge).symm
end
