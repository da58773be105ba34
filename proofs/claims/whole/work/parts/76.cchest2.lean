-- ===== the class: chests copied, opened boxes counted =====
def kCp (O B P O2 B2 P2 : Nat) : Prop := (O = 65 ∧ B = 66 ∧ P = 67 ∧ O2 = 62 ∧ B2 = 63 ∧ P2 = 64) ∨ (O = 98 ∧ B = 99 ∧ P = 100 ∧ O2 = 62 ∧ B2 = 63 ∧ P2 = 64) ∨ (O = 101 ∧ B = 102 ∧ P = 103 ∧ O2 = 62 ∧ B2 = 63 ∧ P2 = 64) ∨ (O = 104 ∧ B = 105 ∧ P = 106 ∧ O2 = 62 ∧ B2 = 63 ∧ P2 = 64) ∨ (O = 62 ∧ B = 63 ∧ P = 64 ∧ O2 = 98 ∧ B2 = 99 ∧ P2 = 100) ∨ (O = 62 ∧ B = 63 ∧ P = 64 ∧ O2 = 101 ∧ B2 = 102 ∧ P2 = 103) ∨ (O = 62 ∧ B = 63 ∧ P = 64 ∧ O2 = 104 ∧ B2 = 105 ∧ P2 = 106)
theorem kCp_ne {O B P O2 B2 P2 : Nat} (h : kCp O B P O2 B2 P2) : (B ≠ P ∧ B ≠ O ∧ P ≠ O) ∧ (O ≠ O2 ∧ O ≠ B2 ∧ O ≠ P2) ∧ (B ≠ O2 ∧ B ≠ B2 ∧ B ≠ P2) ∧ (P ≠ O2 ∧ P ≠ B2 ∧ P ≠ P2) := by
  unfold kCp at h
  omega
theorem zrow_s {α : Type} {f : Nat → Nat → α} {o c : Nat} {g : Nat → α} : zrow f o g o c = g c := if_pos rfl
theorem zrow_n {α : Type} {f : Nat → Nat → α} {o a : Nat} {g : Nat → α} (h : a ≠ o) : zrow f o g a = f a := funext fun c => if_neg h
theorem sCB_surj {f : Nat → Bool} {j : Nat} : ∀ n, j < sCB f n → ∃ b, b < n ∧ f b = true ∧ sCB f b = j
  | 0, h => absurd h (Nat.not_lt_zero _)
  | n + 1, h => by
    rw [sCB] at h
    by_cases c : f n = true
    · rw [if_pos c] at h
      by_cases d : sCB f n = j
      · exact ⟨n, by omega, c, d⟩
      · obtain ⟨b, b1, b2, b3⟩ := sCB_surj (f := f) (j := j) n (by omega)
        exact ⟨b, by omega, b2, b3⟩
    · rw [if_neg c] at h
      obtain ⟨b, b1, b2, b3⟩ := sCB_surj n h
      exact ⟨b, by omega, b2, b3⟩
/-- one box as in another chest -/
def cCpB (c c' : sC) (b : Nat) : sC := (fun i => if i / 9 = b then c.1 i else c'.1 i, fup c'.2.1 b (c.2.1 b), c'.2.2)
def cCpR (c c' : sC) : sC := (c'.1, c'.2.1, c.2.2)
section
variable {G : zG} {n : Nat} {I : zI} {L : zL} {R : zR} {q : zq} {post : zPo} {g : zg} {c c' : sC} {O B P O2 B2 P2 : Nat}
theorem k_copyRest (hO : kCp O B P O2 B2 P2) (hc : kC g c O2 B2 P2 I) (hc' : kC g c' O B P I) (h : ∀ I' : zI, kC g (cCpR c c') O B P I' → zFr (tCh O B P) I I' → post none I' L (zR1 q)) : zC G (n + 1) 143 [.ref O, .ref O2] I L (zR1 q) post := by
  obtain ⟨⟨n1, n2, n3⟩, ⟨m1, m2, m3⟩, -, -⟩ := kCp_ne hO
  obtain ⟨-, -, a3, a4, a5⟩ := hc
  obtain ⟨b1, b2, -, -, -⟩ := hc'
  have cg := h (zup (zup (zup I O 2 (nI c.2.2.1)) O 3 (nI c.2.2.2.1)) O 4 c.2.2.2.2) ⟨by
    rw [zup_ne n2, zup_ne n2, zup_ne n2, zup_ne n3, zup_ne n3, zup_ne n3]; exact b1, by
    rw [zup_ne n2, zup_ne n2, zup_ne n2, zup_ne n3, zup_ne n3, zup_ne n3]; exact b2, by
    rw [zup_k (by decide), zup_k (by decide), zup_self]; rfl, by
    rw [zup_k (by decide), zup_self]; rfl, zup_self⟩ (tCh_up (tCh_up (tCh_up (zFr_0 _ _) (.inr (.inr ⟨rfl, .inl rfl⟩))) (.inr (.inr ⟨rfl, .inr (.inl rfl)⟩))) (.inr (.inr ⟨rfl, .inr (.inr rfl)⟩)))
  rw [← a3, ← a4, ← a5] at cg
  rcases hO with ⟨o1, o2, o3, o4, o5, o6⟩ | ⟨o1, o2, o3, o4, o5, o6⟩ | ⟨o1, o2, o3, o4, o5, o6⟩ | ⟨o1, o2, o3, o4, o5, o6⟩ | ⟨o1, o2, o3, o4, o5, o6⟩ | ⟨o1, o2, o3, o4, o5, o6⟩ | ⟨o1, o2, o3, o4, o5, o6⟩ <;> (
    subst o1 o2 o3 o4 o5 o6
    exact zin0 rfl rfl rfl (b143_0 cg))
theorem k_copyFrom (hO : kCp O B P O2 B2 P2) (hg : gOk g) (hc : kC g c O2 B2 P2 I) (h : ∀ I' : zI, kC g c O B P I' → zFr (tCh O B P) I I' → post none I' L (zR1 q)) : zC G (n + 2) 142 [.ref O, .ref O2] I L (zR1 q) post := by
  have hO' := hO
  obtain ⟨⟨n1, n2, n3⟩, ⟨m1, m2, m3⟩, ⟨k1, k2, k3⟩, ⟨l1, l2, l3⟩⟩ := kCp_ne hO
  -- the state behind both copies
  have mid : ∀ J : zI, (∀ k, k < 21807 → J B k = I B2 k) → (∀ k, k < 2423 → J P k = I P2 k) → (∀ o, o ≠ B → o ≠ P → J o = I o) → ∀ post' : zPo, (∀ I' : zI, kC g c O B P I' → zFr (tCh O B P) I I' → post' none I' L (zR1 q)) → zC G (n + 1) 143 [.ref O, .ref O2] J L (zR1 q) post' := by
    intro J jB jP jo post' h'
    have hcJ : kC g c O2 B2 P2 J := kC_of hc (jo B2 (Ne.symm k2) (Ne.symm l2)) (jo P2 (Ne.symm k3) (Ne.symm l3)) (fun k _ => by rw [jo O2 (Ne.symm k1) (Ne.symm l1)])
    have hcJ' : kC g (c.1, c.2.1, (J O 2).toNatClampNeg, 0, 0) O B P (zup (zup (zup J O 2 (nI (J O 2).toNatClampNeg)) O 3 (nI 0)) O 4 0) := by
      refine ⟨fun b hb => ?_, fun j hj hj2 => ?_, ?_, ?_, zup_self⟩
      · have hl := sl_lt hg hb
        rw [zup_ne n2, zup_ne n2, zup_ne n2, zup_ne n3, zup_ne n3, zup_ne n3]
        refine ⟨(jP _ (by omega)).trans (hc.1 b hb).1, fun k hk => (jB _ (by omega)).trans ((hc.1 b hb).2 k hk)⟩
      · rw [zup_ne n2, zup_ne n2, zup_ne n2, zup_ne n3, zup_ne n3, zup_ne n3]
        exact ⟨(jP _ hj2).trans (hc.2.1 j hj hj2).1, fun k hk => (jB _ (by omega)).trans ((hc.2.1 j hj hj2).2 k hk)⟩
      · rw [zup_k (by decide), zup_k (by decide), zup_self]
      · rw [zup_k (by decide), zup_self]
    obtain ⟨-, -, a3, a4, a5⟩ := hcJ
    have cg := h' (zup (zup (zup J O 2 (nI c.2.2.1)) O 3 (nI c.2.2.2.1)) O 4 c.2.2.2.2) ⟨by
      have := hcJ'.1
      rw [zup_ne n2, zup_ne n2, zup_ne n2, zup_ne n3, zup_ne n3, zup_ne n3] at this ⊢
      exact this, by
      have := hcJ'.2.1
      rw [zup_ne n2, zup_ne n2, zup_ne n2, zup_ne n3, zup_ne n3, zup_ne n3] at this ⊢
      exact this, by
      rw [zup_k (by decide), zup_k (by decide), zup_self], by
      rw [zup_k (by decide), zup_self], zup_self⟩ (tCh_up (tCh_up (tCh_up (fun o k z => by
        unfold tCh at z
        simp only [Bool.or_eq_false_iff] at z
        have nB : o ≠ B := fun w => by rw [w, Nat.beq_refl] at z; cases z.1.1
        have nP : o ≠ P := fun w => by rw [w, Nat.beq_refl] at z; cases z.1.2
        rw [jo o nB nP]) (.inr (.inr ⟨rfl, .inl rfl⟩))) (.inr (.inr ⟨rfl, .inr (.inl rfl)⟩))) (.inr (.inr ⟨rfl, .inr (.inr rfl)⟩)))
    rw [← a3, ← a4, ← a5] at cg
    rcases hO with ⟨o1, o2, o3, o4, o5, o6⟩ | ⟨o1, o2, o3, o4, o5, o6⟩ | ⟨o1, o2, o3, o4, o5, o6⟩ | ⟨o1, o2, o3, o4, o5, o6⟩ | ⟨o1, o2, o3, o4, o5, o6⟩ | ⟨o1, o2, o3, o4, o5, o6⟩ | ⟨o1, o2, o3, o4, o5, o6⟩ <;> (
      subst o1 o2 o3 o4 o5 o6
      exact zin0 rfl rfl rfl (b143_0 cg))
  have two := mid (zrow (zrow I B (va_cpy (I B2) (I B) (0 : Int32).toNatClampNeg (0 : Int32).toNatClampNeg (Int32.ofNat 21807).toNatClampNeg)) P (va_cpy (zrow I B (va_cpy (I B2) (I B) (0 : Int32).toNatClampNeg (0 : Int32).toNatClampNeg (Int32.ofNat 21807).toNatClampNeg) P2) (zrow I B (va_cpy (I B2) (I B) (0 : Int32).toNatClampNeg (0 : Int32).toNatClampNeg (Int32.ofNat 21807).toNatClampNeg) P) (0 : Int32).toNatClampNeg (0 : Int32).toNatClampNeg (Int32.ofNat 2423).toNatClampNeg)) (fun k hk => by
    rw [zrow_n n1, zrow_s]
    unfold va_cpy
    rw [show (Int32.ofNat 21807).toNatClampNeg = 21807 from nI_clamp (n := 21807) (by decide), show (0 : Int32).toNatClampNeg = 0 from rfl, if_pos (by omega), Nat.sub_zero, Nat.zero_add]) (fun k hk => by
    rw [zrow_s]
    unfold va_cpy
    rw [show (Int32.ofNat 2423).toNatClampNeg = 2423 from nI_clamp (n := 2423) (by decide), show (0 : Int32).toNatClampNeg = 0 from rfl, if_pos (by omega), Nat.sub_zero, zrow_n (Ne.symm k3), Nat.zero_add]) (fun o h1 h2 => by rw [zrow_n h2, zrow_n h1])
  have z1 : (¬ (0 : Int32) < 0 ∧ ¬ (0 : Int32) < 0 ∧ ¬ Int32.ofNat 21807 < 0 ∧ (0 : Int32).toNatClampNeg + (Int32.ofNat 21807).toNatClampNeg ≤ 21807 ∧ (0 : Int32).toNatClampNeg + (Int32.ofNat 21807).toNatClampNeg ≤ 21807) := by decide +kernel
  have z2 : (¬ (0 : Int32) < 0 ∧ ¬ (0 : Int32) < 0 ∧ ¬ Int32.ofNat 2423 < 0 ∧ (0 : Int32).toNatClampNeg + (Int32.ofNat 2423).toNatClampNeg ≤ 2423 ∧ (0 : Int32).toNatClampNeg + (Int32.ofNat 2423).toNatClampNeg ≤ 2423) := by decide +kernel
  rcases hO with ⟨o1, o2, o3, o4, o5, o6⟩ | ⟨o1, o2, o3, o4, o5, o6⟩ | ⟨o1, o2, o3, o4, o5, o6⟩ | ⟨o1, o2, o3, o4, o5, o6⟩ | ⟨o1, o2, o3, o4, o5, o6⟩ | ⟨o1, o2, o3, o4, o5, o6⟩ | ⟨o1, o2, o3, o4, o5, o6⟩ <;> (
    subst o1 o2 o3 o4 o5 o6
    exact zin0 rfl rfl rfl (b142_0 (And.intro z1 (And.intro z2 (two _ h)))))
theorem k_copyBox {b : Nat} (hg : gOk g) (hc : kC g c 62 63 64 I) (hc' : kC g c' 65 66 67 I) (hb : sB g b = true) (h : ∀ I' : zI, kC g (cCpB c c' b) 65 66 67 I' → zFr (tCh 65 66 67) I I' → post none I' L (zR1 q)) : zC G (n + 2) 144 [.ref 65, .ref 62, .int (nI (sl g b))] I L (zR1 q) post := by
  have hl := sl_lt hg hb
  have e9 : (nI (9 * sl g b)).toNatClampNeg = 9 * sl g b := nI_clamp (by omega)
  have n9 : (9 : Int32).toNatClampNeg = 9 := rfl
  have z1 : (¬ nI (9 * sl g b) < 0 ∧ ¬ nI (9 * sl g b) < 0 ∧ ¬ (9 : Int32) < 0 ∧ (nI (9 * sl g b)).toNatClampNeg + (9 : Int32).toNatClampNeg ≤ 21807 ∧ (nI (9 * sl g b)).toNatClampNeg + (9 : Int32).toNatClampNeg ≤ 21807) := by
    rw [e9, n9]
    exact ⟨nI_pos (by omega), nI_pos (by omega), by decide, by omega, by omega⟩
  have fin : ∀ J : zI, J = zup (zrow I 66 (va_cpy (I 63) (I 66) (nI (9 * sl g b)).toNatClampNeg (nI (9 * sl g b)).toNatClampNeg (9 : Int32).toNatClampNeg)) 67 (sl g b) (zbo (c.2.1 b)) → post none J L (zR1 q) := by
    intro J hJ
    have j66 : ∀ i, J 66 i = if 9 * sl g b ≤ i ∧ i < 9 * sl g b + 9 then I 63 i else I 66 i := fun i => by
      rw [hJ, zup_ne (by decide), zrow_s, e9, n9]
      unfold va_cpy
      by_cases w : 9 * sl g b ≤ i ∧ i < 9 * sl g b + 9
      · rw [if_pos w, if_pos w, show 9 * sl g b + (i - 9 * sl g b) = i by omega]
      · rw [if_neg w, if_neg w]
    have j67 : ∀ i, J 67 i = if i = sl g b then zbo (c.2.1 b) else I 67 i := fun i => by
      rw [hJ, zup_eq, zrow_n (by decide)]
    have jo : ∀ o, o ≠ 66 → o ≠ 67 → J o = I o := fun o h1 h2 => by rw [hJ, zup_ne h2, zrow_n h1]
    obtain ⟨a1, a2, a3, a4, a5⟩ := hc
    obtain ⟨b1, b2, b3, b4, b5⟩ := hc'
    refine h J ⟨fun b' hb' => ?_, fun j hj hj2 => ?_, ?_, ?_, ?_⟩ (fun o k z => ?_)
    · have hl' := sl_lt hg hb'
      by_cases w : b' = b
      · subst w
        refine ⟨?_, fun k hk => ?_⟩
        · rw [j67, if_pos rfl]
          show _ = zbo (fup c'.2.1 b' (c.2.1 b') b')
          rw [fup_s]
        · rw [j66, if_pos (by omega)]
          show _ = nI (if (9 * b' + k) / 9 = b' then c.1 (9 * b' + k) else c'.1 (9 * b' + k))
          rw [if_pos (by omega)]
          exact (a1 b' hb').2 k hk
      · have wl : sl g b' ≠ sl g b := fun z => w (sl_inj hb' hb z)
        refine ⟨?_, fun k hk => ?_⟩
        · rw [j67, if_neg wl]
          show _ = zbo (fup c'.2.1 b (c.2.1 b) b')
          rw [fup_n w]
          exact (b1 b' hb').1
        · rw [j66, if_neg (by omega)]
          show _ = nI (if (9 * b' + k) / 9 = b then c.1 (9 * b' + k) else c'.1 (9 * b' + k))
          rw [if_neg (by omega)]
          exact (b1 b' hb').2 k hk
    · refine ⟨?_, fun k hk => ?_⟩
      · rw [j67, if_neg (by omega)]
        exact (b2 j hj hj2).1
      · rw [j66, if_neg (by omega)]
        exact (b2 j hj hj2).2 k hk
    · rw [jo 65 (by decide) (by decide)]
      exact b3
    · rw [jo 65 (by decide) (by decide)]
      exact b4
    · rw [jo 65 (by decide) (by decide)]
      exact b5
    · have n66 : o ≠ 66 := fun w => by subst w; cases z
      have n67 : o ≠ 67 := fun w => by subst w; cases z
      rw [jo o n66 n67]
  refine zin0 rfl rfl rfl (b144_0 (k_placeOf (k := 0) (.inr (.inl ⟨rfl, rfl, rfl⟩)) (by omega) (by omega) (And.intro (fun z => absurd z (nI_pos (by omega))) (fun _ => And.intro z1 (And.intro (vp_in_nI (by omega) (by decide)) (And.intro (vp_in_nI (by omega) (by decide)) (b144_38 (fin _ ?_))))))))
  rw [nI_clamp (n := sl g b) (by omega), zrow_n (by decide), (hc.1 b hb).1]
  rfl
/-- which boxes are counted: with so many kinds of beads -/
def loHi (mv : Option Nat) : Nat × Nat := match mv with
  | none => (0, 9)
  | some v => (v, v)
theorem cIn_sB {g : zg} {c : sC} (h : cIn g c) {b : Nat} (ho : c.2.1 b = true) : sB g b = true := by
  obtain ⟨h1, h2, h3⟩ := h.2.1 b ho
  exact sBxB_t.mpr ⟨h1, h3, h2⟩
theorem k_countOpened {mv : Option Nat} {x y : Int32} (hmv : ∀ v, mv = some v → v ≤ 9) (hg : gOk g) (hin : cIn g c) (hc : kC g c 62 63 64 I) (hx : x = nI (loHi mv).1) (hy : y = nI (loHi mv).2) (h : post (some (.int (nI (sCO c mv)))) I L (zR1 q)) : zC G (n + 1) 135 [.ref 62, .int x, .int y] I L (zR1 q) post := by
  subst hx hy
  have hlh : (loHi mv).1 ≤ 9 ∧ (loHi mv).2 ≤ 9 := by
    cases mv with
    | none => exact ⟨Nat.zero_le _, Nat.le_refl _⟩
    | some v => exact ⟨hmv v rfl, hmv v rfl⟩
  obtain ⟨op, hop⟩ : ∃ op : Nat → Bool, op = fun j => decide (I 64 j ≠ 0) := ⟨_, rfl⟩
  obtain ⟨bd, hbd⟩ : ∃ bd : Nat → Nat → Nat, bd = fun j k => (I 63 (9 * j + k)).toNatClampNeg := ⟨_, rfl⟩
  have opz : ∀ b : Bool, ∀ v : Int32, v = zbo b → decide (v ≠ 0) = b := fun b v hv => by
    subst hv
    cases b <;> decide
  have atB : ∀ b, sB g b = true → op (sl g b) = c.2.1 b ∧ ∀ k, k < 9 → bd (sl g b) k = c.1 (9 * b + k) := fun b hb => by
    have hb19 := sR_lt hg (sBxB_t.mp hb).1
    rw [hop, hbd]
    refine ⟨opz _ _ (hc.1 b hb).1, fun k hk => ?_⟩
    show (I 63 (9 * sl g b + k)).toNatClampNeg = _
    have := (cAll_bd hin.1 (k := 9 * b + k) (by omega)).1
    rw [(hc.1 b hb).2 k hk, nI_clamp (by omega)]
  have atN : ∀ j, sN g ≤ j → j < 2423 → op j = false := fun j hj hj2 => by
    rw [hop]
    exact opz false _ (hc.2.1 j hj hj2).1
  have cells : ∀ j, j < 2423 → I 64 j = zbo (op j) ∧ ∀ k, k < 9 → I 63 (9 * j + k) = nI (bd j k) ∧ bd j k ≤ 10000 := fun j hj => by
    by_cases w : j < sN g
    · obtain ⟨b, b1, b2, b3⟩ := sCB_surj 19683 w
      have b3 : sl g b = j := b3
      have b2 : sB g b = true := b2
      obtain ⟨e1, e2⟩ := atB b b2
      rw [b3] at e1 e2
      refine ⟨?_, fun k hk => ?_⟩
      · rw [e1, ← b3]
        exact (hc.1 b b2).1
      · rw [e2 k hk, ← b3]
        exact ⟨(hc.1 b b2).2 k hk, (cAll_bd hin.1 (k := 9 * b + k) (by omega)).1⟩
    · obtain ⟨e1, e2⟩ := hc.2.1 j (by omega) hj
      refine ⟨by rw [atN j (by omega) hj, e1]; rfl, fun k hk => ?_⟩
      have e3 := e2 k hk
      rw [hbd]
      dsimp only
      rw [e3]
      exact ⟨by decide, by decide⟩
  -- what is counted of a slot
  obtain ⟨cn, hcn⟩ : ∃ cn : Nat → Nat, cn = fun j => sCB (fun k => decide (0 < bd j k)) 9 := ⟨_, rfl⟩
  obtain ⟨f', hf'⟩ : ∃ f' : Nat → Bool, f' = fun j => op j && (decide ((loHi mv).1 ≤ cn j) && decide (cn j ≤ (loHi mv).2)) := ⟨_, rfl⟩
  have hcnt : ∀ f2 : Nat → Bool, (∀ j, j < 2423 → f2 j = f' j) → ∀ m, m ≤ 2423 → sCB f2 m = sCB f' m := fun f2 h2 m => by
    induction m with
    | zero => intro _; rfl
    | succ m ih => intro hm; rw [sCB, sCB, ih (by omega), h2 m (by omega)]
  have tot : sCB f' 2423 = sCO c mv := by
    have e : sCB (fun j => decide (j < 2423) && f' j) 2423 = sCO c mv := by
      unfold sCO
      refine sCB_slots hg (fun b hb => ?_) (fun j hj => ?_) (fun b hb => ?_)
      · have hl := sl_lt hg hb
        obtain ⟨e1, e2⟩ := atB b hb
        have e3 : cn (sl g b) = sWB c b := by
          rw [hcn]
          show sCB (fun k => decide (0 < bd (sl g b) k)) 9 = sCB (fun k => decide (0 < c.1 (9 * b + k))) 9
          have key : ∀ m, m ≤ 9 → sCB (fun k => decide (0 < bd (sl g b) k)) m = sCB (fun k => decide (0 < c.1 (9 * b + k))) m := by
            intro m
            induction m with
            | zero => intro _; rfl
            | succ m ih => intro hm; rw [sCB, sCB, ih (by omega), e2 m (by omega)]
          exact key 9 (Nat.le_refl _)
        rw [decide_eq_true (by omega), hf', Bool.true_and]
        show (op (sl g b) && _) = sCOf c mv b
        unfold sCOf
        rw [e1, e3]
        have := sCB_le (fun k => decide (0 < c.1 (9 * b + k))) 9
        congr 1
        cases mv with
        | none =>
          show (decide (0 ≤ sWB c b) && decide (sWB c b ≤ 9)) = true
          rw [decide_eq_true (Nat.zero_le _), Bool.true_and]
          exact decide_eq_true this
        | some v =>
          show (decide (v ≤ sWB c b) && decide (sWB c b ≤ v)) = decide (sWB c b = v)
          rw [← Bool.decide_and]
          exact decide_eq_decide.mpr ⟨fun z => by omega, fun z => by omega⟩
      · by_cases w : j < 2423
        · rw [hf']
          show (decide (j < 2423) && (op j && _)) = false
          rw [atN j hj w]
          exact Bool.and_false _
        · rw [decide_eq_false w]
          rfl
      · unfold sCOf
        cases e : c.2.1 b with
        | false => rfl
        | true =>
          rw [cIn_sB hin e] at hb
          cases hb
    rw [← e]
    exact (hcnt _ (fun j hj => by rw [decide_eq_true hj]; rfl) 2423 (Nat.le_refl _)).symm
  rw [← tot] at h
  have outer : ∀ j i (v5 v6 : Option Value), i + j = 2423 → zQ G 135 n post 5 [some (.ref 62), some (.int (nI (loHi mv).1)), some (.int (nI (loHi mv).2)), some (.int (nI (sCB f' i))), some (.int (nI i)), v5, v6] [] I L (zR1 q) := by
    intro j
    induction j with
    | zero =>
      intro i v5 v6 hi
      rw [show i = 2423 by omega]
      exact b135_5 (pk_le 2423 2423 (fun _ => b135_101 h) (fun z => absurd z (by omega)) rfl rfl (by omega) (by omega))
    | succ j ih =>
      intro i v5 v6 hi
      obtain ⟨ce, cb⟩ := cells i (by omega)
      have hcl : (nI i).toNatClampNeg = i := nI_clamp (by omega)
      have vi : vp_in (nI i) 2423 := vp_in_nI (by omega) (by decide)
      have hle := sCB_le f' i
      -- behind the kinds
      have tail : ∀ (k : Nat) (v6 : Option Value), (op i = true → k = cn i) → k ≤ 9 → zQ G 135 n post 70 [some (.ref 62), some (.int (nI (loHi mv).1)), some (.int (nI (loHi mv).2)), some (.int (nI (sCB f' i))), some (.int (nI i)), some (.int (nI k)), v6] [] I L (zR1 q) := by
        intro k v6 hk hk9
        have nxt : ∀ m, m = sCB f' (i + 1) → zQ G 135 n post 95 [some (.ref 62), some (.int (nI (loHi mv).1)), some (.int (nI (loHi mv).2)), some (.int (nI m)), some (.int (nI i)), some (.int (nI k)), v6] [] I L (zR1 q) := by
          intro m hm
          refine b135_95 ?_
          have qq := ih (i + 1) (some (.int (nI k))) v6 (by omega)
          rw [← nI_1, ← hm] at qq
          exact qq
        refine b135_70 (And.intro vi ?_)
        rw [hcl, ce]
        refine zbo_eq (fun d => nxt _ ?_) (fun d => ?_)
        · rw [sCB, hf']
          show _ = _ + (if (op i && _) = true then 1 else 0)
          rw [d]
          rfl
        · have ek := hk d
          refine pk_lt k (loHi mv).1 (fun w => nxt _ ?_) (fun w => pk_lt (loHi mv).2 k (fun w2 => nxt _ ?_) (fun w2 => ?_) rfl rfl (by omega) (by omega)) rfl rfl (by omega) (by omega)
          · rw [sCB, if_neg (by rw [hf']; show ¬ (op i && (decide ((loHi mv).1 ≤ cn i) && _)) = true; rw [d, decide_eq_false (p := (loHi mv).1 ≤ cn i) (by omega), Bool.false_and]; decide)]
            rfl
          · rw [sCB, if_neg (by rw [hf']; show ¬ (op i && (_ && decide (cn i ≤ (loHi mv).2))) = true; rw [d, decide_eq_false (p := cn i ≤ (loHi mv).2) (by omega), Bool.and_false]; decide)]
            rfl
          · have qq := nxt (sCB f' i + 1) (by rw [sCB, if_pos (by rw [hf']; show (op i && (decide ((loHi mv).1 ≤ cn i) && decide (cn i ≤ (loHi mv).2))) = true; rw [d, decide_eq_true (by omega), decide_eq_true (by omega)]; rfl)])
            rw [← nI_1] at qq
            exact qq
      have inner : ∀ m k, k + m = 9 → zQ G 135 n post 21 [some (.ref 62), some (.int (nI (loHi mv).1)), some (.int (nI (loHi mv).2)), some (.int (nI (sCB f' i))), some (.int (nI i)), some (.int (nI (sCB (fun k => decide (0 < bd i k)) k))), some (.int (nI k))] [] I L (zR1 q) := by
        intro m
        induction m with
        | zero =>
          intro k hk
          rw [show k = 9 by omega]
          exact b135_21 (pk_le 9 9 (fun _ => tail _ _ (fun _ => by rw [hcn]) (sCB_le _ 9)) (fun z => absurd z (by omega)) rfl rfl (by omega) (by omega))
        | succ m ih2 =>
          intro k hk
          have e1 : nI i * 9 + nI k = nI (9 * i + k) := by rw [show (9 : Int32) = nI 9 from rfl, pk_mul, nI_add, Nat.mul_comm]
          have hk9 := sCB_le (fun k => decide (0 < bd i k)) k
          obtain ⟨cb1, cb2⟩ := cb k (by omega)
          refine b135_21 (pk_le 9 k (fun z => absurd z (by omega)) (fun _ => And.intro vi ?_) rfl rfl (by omega) (by omega))
          rw [hcl, ce]
          refine zbo_eq (fun d => tail _ _ (fun z => by rw [d] at z; cases z) (by omega)) (fun d => And.intro (by rw [e1]; exact vp_in_nI (by omega) (by decide)) ?_)
          rw [e1, nI_clamp (by omega), cb1]
          have qq := ih2 (k + 1) (by omega)
          rw [sCB] at qq
          refine pk_le (bd i k) 0 (fun w => b135_60 (b135_61 ?_)) (fun w => b135_61 ?_) rfl rfl (by omega) (by omega)
          · rw [if_neg (fun z => by have := of_decide_eq_true z; omega), Nat.add_zero, ← nI_1] at qq
            rw [← Int32.add_zero (nI (sCB (fun k => decide (0 < bd i k)) k))] at qq
            exact qq
          · rw [if_pos (decide_eq_true w), ← nI_1 k, ← nI_1] at qq
            exact qq
      exact b135_5 (pk_le 2423 i (fun z => absurd z (by omega)) (fun _ => inner 9 0 (by omega)) rfl rfl (by omega) (by omega))
  exact zin0 rfl rfl rfl (b135_0 (outer 2423 0 none none (by omega)))
end
