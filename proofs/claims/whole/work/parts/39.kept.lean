-- ===== the reference: chests kept =====
def mK (i : Nat) (c : sC) (I : zI) : Prop := (∀ k, k < 177147 → I 31 (177147 * i + k) = nI (c.1 k)) ∧ (∀ b, b < 19683 → I 30 (19683 * i + b) = zbo (c.2.1 b)) ∧ I 32 (3 * i) = nI c.2.2.1 ∧ I 32 (3 * i + 1) = nI c.2.2.2.1 ∧ I 32 (3 * i + 2) = c.2.2.2.2
def tK (o k : Nat) : Bool := Nat.beq o 30 || Nat.beq o 31 || Nat.beq o 32
/-- join: one box -/
def sJb (ck : sC) (b : Nat) (s : sC × Nat) : Nat → sC × Nat
  | 0 => s
  | m + 1 => (cGive (sJb ck b s m).1 (9 * b + m) (ck.1 (9 * b + m)), (sJb ck b s m).2 + min (ck.1 (9 * b + m)) (sJb ck b s m).1.2.2.1)
def sJn (ck c : sC) : Nat → sC × Nat
  | 0 => (c, 0)
  | b + 1 => if ck.2.1 b = true then sJb ck b (cSetOp (sJn ck c b).1 b true, (sJn ck c b).2) 9 else sJn ck c b
theorem sJb_all {ck : sC} {b : Nat} {s : sC × Nat} (hb : b < 19683) (h : cAll s.1) : ∀ m, m ≤ 9 → cAll (sJb ck b s m).1
  | 0, _ => h
  | m + 1, hm => cAll_give (sJb_all hb h m (by omega)) (by omega)
theorem sJn_all {ck c : sC} (h : cAll c) : ∀ b, b ≤ 19683 → cAll (sJn ck c b).1 := by
  intro b
  induction b with
  | zero =>
    intro _
    rw [sJn]
    exact h
  | succ b ih =>
    intro hb
    have q := ih (by omega)
    rw [sJn]
    split
    · have q2 : cAll (cSetOp (sJn ck c b).1 b true) := q
      exact sJb_all (s := (cSetOp (sJn ck c b).1 b true, (sJn ck c b).2)) (by omega) q2 9 (by omega)
    · exact q
section
variable {G : zG} {n : Nat} {I : zI} {L : zL} {q : zq} {post : zPo} {g : zg} {c : sC} {w : uW}
theorem c_keepIn {i : Nat} (hi : i < 4) (hc : mC c I) (h : ∀ I' : zI, mK i c I' → (∀ j c', j < 4 → j ≠ i → mK j c' I → mK j c' I') → zFr tK I I' → post none I' L (zR1 q)) : zC G (n + 1) 110 [.ref 0, .int (nI i)] I L (zR1 q) post := by
  have b1 : ∀ K : zI, (∀ x, x < 19683 → K 30 (19683 * i + x) = zbo (c.2.1 x)) → (∀ a, (a < 19683 * i ∨ 19683 * i + 19683 ≤ a) → K 30 a = I 30 a) → (∀ o, o ≠ 30 → K o = I o) → ∀ j k : Nat, k + j = 177147 → ∀ J : zI, (∀ x, x < k → J 31 (177147 * i + x) = nI (c.1 x)) → (∀ a, (a < 177147 * i ∨ 177147 * i + 177147 ≤ a) → J 31 a = I 31 a) → (∀ o, o ≠ 31 → J o = K o) → zQ G 110 n post 35 [some (.ref 0), some (.int (nI i)), some (.int (nI k))] [] J L (zR1 q) := by
    intro K h30 h30o hKo j
    induction j with
    | zero =>
      intro k hk J h31 h31o hJo
      have e3 : (3 : Int32) * nI i = nI (3 * i) := pk_mul 3 i
      have c0 : ((3 : Int32) * nI i).toNatClampNeg = 3 * i := by rw [e3, nI_clamp (by omega)]
      have c1 : ((3 : Int32) * nI i + 1).toNatClampNeg = 3 * i + 1 := by rw [e3, nI_1, nI_clamp (by omega)]
      have c2 : ((3 : Int32) * nI i + 2).toNatClampNeg = 3 * i + 2 := by rw [e3, show (2 : Int32) = nI 2 from rfl, nI_add, nI_clamp (by omega)]
      have i0 : vp_in ((3 : Int32) * nI i) 12 := by rw [e3]; exact vp_in_nI (by omega) (by decide)
      have i1 : vp_in ((3 : Int32) * nI i + 1) 12 := by rw [e3, nI_1]; exact vp_in_nI (by omega) (by decide)
      have i2 : vp_in ((3 : Int32) * nI i + 2) 12 := by rw [e3, show (2 : Int32) = nI 2 from rfl, nI_add]; exact vp_in_nI (by omega) (by decide)
      have j0 : J 0 = I 0 := (hJo 0 (by decide)).trans (hKo 0 (by decide))
      refine b110_35 (pk_le 177147 k (fun _ => b110_64 (And.intro i0 (And.intro i1 (And.intro i2 ?_)))) (fun z => absurd z (by omega)) rfl rfl (by omega) (by omega))
      refine (fun (X : zI) (hX : mK i c X ∧ (∀ j c', j < 4 → j ≠ i → mK j c' I → mK j c' X) ∧ zFr tK I X) => h X hX.1 hX.2.1 hX.2.2) _ ?_
      have J' : ∀ X : zI, X = zup (zup (zup J 32 (3 * i) (I 0 14)) 32 (3 * i + 1) (I 0 15)) 32 (3 * i + 2) (I 0 16) → mK i c X ∧ (∀ j c', j < 4 → j ≠ i → mK j c' I → mK j c' X) ∧ zFr tK I X := by
        intro X hX
        have x32 : ∀ a, X 32 a = if a = 3 * i + 2 then I 0 16 else if a = 3 * i + 1 then I 0 15 else if a = 3 * i then I 0 14 else J 32 a := fun a => by rw [hX, zup_eq, zup_eq, zup_eq]
        have xo : ∀ o, o ≠ 32 → X o = J o := fun o ho => by rw [hX, zup_ne ho, zup_ne ho, zup_ne ho]
        refine ⟨⟨fun x hx => ?_, fun x hx => ?_, ?_, ?_, ?_⟩, fun j' c' hj4 hji hkj => ?_, fun o a ho => ?_⟩
        · rw [xo 31 (by decide)]
          exact h31 x (by omega)
        · rw [xo 30 (by decide), hJo 30 (by decide)]
          exact h30 x hx
        · rw [x32, if_neg (by omega), if_neg (by omega), if_pos rfl]
          exact hc.2.2.1
        · rw [x32, if_neg (by omega), if_pos rfl]
          exact hc.2.2.2.1
        · rw [x32, if_pos rfl]
          exact hc.2.2.2.2
        · obtain ⟨k1, k2, k3, k4, k5⟩ := hkj
          have e32 : J 32 = I 32 := (hJo 32 (by decide)).trans (hKo 32 (by decide))
          refine ⟨fun x hx => ?_, fun x hx => ?_, ?_, ?_, ?_⟩
          · rw [xo 31 (by decide), h31o _ (by omega)]
            exact k1 x hx
          · rw [xo 30 (by decide), hJo 30 (by decide), h30o _ (by omega)]
            exact k2 x hx
          · rw [x32, if_neg (by omega), if_neg (by omega), if_neg (by omega), e32]
            exact k3
          · rw [x32, if_neg (by omega), if_neg (by omega), if_neg (by omega), e32]
            exact k4
          · rw [x32, if_neg (by omega), if_neg (by omega), if_neg (by omega), e32]
            exact k5
        · have n32 : o ≠ 32 := fun z => by subst z; cases ho
          have n31 : o ≠ 31 := fun z => by subst z; cases ho
          have n30 : o ≠ 30 := fun z => by subst z; cases ho
          rw [xo o n32, hJo o n31, hKo o n30]
      refine J' _ ?_
      show zup (zup (zup J 32 ((3 : Int32) * nI i).toNatClampNeg (J 0 14)) 32 ((3 : Int32) * nI i + 1).toNatClampNeg (zup J 32 ((3 : Int32) * nI i).toNatClampNeg (J 0 14) 0 15)) 32 ((3 : Int32) * nI i + 2).toNatClampNeg (zup (zup J 32 ((3 : Int32) * nI i).toNatClampNeg (J 0 14)) 32 ((3 : Int32) * nI i + 1).toNatClampNeg (zup J 32 ((3 : Int32) * nI i).toNatClampNeg (J 0 14) 0 15) 0 16) = _
      rw [zup_ne (o' := 0) (by decide), zup_ne (o' := 0) (by decide), zup_ne (o' := 0) (by decide), c0, c1, c2, j0]
    | succ j ih =>
      intro k hk J h31 h31o hJo
      have ei : (177147 : Int32) * nI i + nI k = nI (177147 * i + k) := by rw [show (177147 : Int32) = nI 177147 from rfl, pk_mul, nI_add]
      have ec : ((177147 : Int32) * nI i + nI k).toNatClampNeg = 177147 * i + k := by rw [ei, nI_clamp (by omega)]
      have ek : (nI k).toNatClampNeg = k := nI_clamp (by omega)
      refine b110_35 (pk_le 177147 k (fun z => absurd z (by omega)) (fun _ => And.intro (vp_in_nI (by omega) (by decide)) (And.intro (by rw [ei]; exact vp_in_nI (by omega) (by decide)) ?_)) rfl rfl (by omega) (by omega))
      have qq := ih (k + 1) (by omega) (zup J 31 ((177147 : Int32) * nI i + nI k).toNatClampNeg (J 5 (nI k).toNatClampNeg)) (fun x hx => ?_) (fun a ha => ?_) (fun o ho => by rw [zup_ne ho]; exact hJo o ho)
      · rw [← nI_1] at qq
        exact qq
      · rw [ec, ek, zup_eq]
        by_cases d : x = k
        · rw [if_pos (by omega), d, hJo 5 (by decide), hKo 5 (by decide)]
          exact hc.1 k (by omega)
        · rw [if_neg (by omega)]
          exact h31 x (by omega)
      · rw [ec, zup_eq, if_neg (by omega)]
        exact h31o a ha
  have b0 : ∀ j k : Nat, k + j = 19683 → ∀ J : zI, (∀ x, x < k → J 30 (19683 * i + x) = zbo (c.2.1 x)) → (∀ a, (a < 19683 * i ∨ 19683 * i + 19683 ≤ a) → J 30 a = I 30 a) → (∀ o, o ≠ 30 → J o = I o) → zQ G 110 n post 2 [some (.ref 0), some (.int (nI i)), some (.int (nI k))] [] J L (zR1 q) := by
    intro j
    induction j with
    | zero =>
      intro k hk J h30 h30o hJo
      refine b110_2 (pk_le 19683 k (fun _ => b110_33 (b1 J (fun x hx => h30 x (by omega)) h30o hJo 177147 0 (by omega) J (fun x hx => absurd hx (by omega)) (fun a _ => by rw [hJo 31 (by decide)]) (fun _ _ => rfl))) (fun z => absurd z (by omega)) rfl rfl (by omega) (by omega))
    | succ j ih =>
      intro k hk J h30 h30o hJo
      have ei : (19683 : Int32) * nI i + nI k = nI (19683 * i + k) := by rw [show (19683 : Int32) = nI 19683 from rfl, pk_mul, nI_add]
      have ec : ((19683 : Int32) * nI i + nI k).toNatClampNeg = 19683 * i + k := by rw [ei, nI_clamp (by omega)]
      have ek : (nI k).toNatClampNeg = k := nI_clamp (by omega)
      refine b110_2 (pk_le 19683 k (fun z => absurd z (by omega)) (fun _ => And.intro (vp_in_nI (by omega) (by decide)) (And.intro (by rw [ei]; exact vp_in_nI (by omega) (by decide)) ?_)) rfl rfl (by omega) (by omega))
      have qq := ih (k + 1) (by omega) (zup J 30 ((19683 : Int32) * nI i + nI k).toNatClampNeg (vp_nar .boolean (J 4 (nI k).toNatClampNeg))) (fun x hx => ?_) (fun a ha => ?_) (fun o ho => by rw [zup_ne ho]; exact hJo o ho)
      · rw [← nI_1] at qq
        exact qq
      · rw [ec, ek, zup_eq]
        by_cases d : x = k
        · rw [if_pos (by omega), d, hJo 4 (by decide), hc.2.1 k (by omega), zbo_nar2]
        · rw [if_neg (by omega)]
          exact h30 x (by omega)
      · rw [ec, zup_eq, if_neg (by omega)]
        exact h30o a ha
  exact zin0 rfl rfl rfl (b110_0 (b0 19683 0 (by omega) I (fun x hx => absurd hx (by omega)) (fun _ _ => rfl) (fun _ _ => rfl)))
theorem c_bringBack {i : Nat} (hi : i < 4) (hk : mK i c I) (h : ∀ I' : zI, mC c I' → zFr tC I I' → post none I' L (zR1 q)) : zC G (n + 1) 111 [.ref 0, .int (nI i)] I L (zR1 q) post := by
  obtain ⟨k1, k2, k3, k4, k5⟩ := hk
  have b1 : ∀ K : zI, (∀ x, x < 19683 → K 4 x = zbo (c.2.1 x)) → (∀ o, o ≠ 4 → K o = I o) → ∀ j k : Nat, k + j = 177147 → ∀ J : zI, (∀ x, x < k → J 5 x = nI (c.1 x)) → (∀ o, o ≠ 5 → J o = K o) → zQ G 111 n post 35 [some (.ref 0), some (.int (nI i)), some (.int (nI k))] [] J L (zR1 q) := by
    intro K h4 hKo j
    induction j with
    | zero =>
      intro k hk J h5 hJo
      have e3 : (3 : Int32) * nI i = nI (3 * i) := pk_mul 3 i
      have c0 : ((3 : Int32) * nI i).toNatClampNeg = 3 * i := by rw [e3, nI_clamp (by omega)]
      have c1 : ((3 : Int32) * nI i + 1).toNatClampNeg = 3 * i + 1 := by rw [e3, nI_1, nI_clamp (by omega)]
      have c2 : ((3 : Int32) * nI i + 2).toNatClampNeg = 3 * i + 2 := by rw [e3, show (2 : Int32) = nI 2 from rfl, nI_add, nI_clamp (by omega)]
      have i0 : vp_in ((3 : Int32) * nI i) 12 := by rw [e3]; exact vp_in_nI (by omega) (by decide)
      have i1 : vp_in ((3 : Int32) * nI i + 1) 12 := by rw [e3, nI_1]; exact vp_in_nI (by omega) (by decide)
      have i2 : vp_in ((3 : Int32) * nI i + 2) 12 := by rw [e3, show (2 : Int32) = nI 2 from rfl, nI_add]; exact vp_in_nI (by omega) (by decide)
      have j32 : J 32 = I 32 := (hJo 32 (by decide)).trans (hKo 32 (by decide))
      refine b111_35 (pk_le 177147 k (fun _ => b111_64 (And.intro i0 (And.intro i1 (And.intro i2 ?_)))) (fun z => absurd z (by omega)) rfl rfl (by omega) (by omega))
      refine (fun (X : zI) (hX : mC c X ∧ zFr tC I X) => h X hX.1 hX.2) _ ?_
      have J' : ∀ X : zI, X = zup (zup (zup J 0 14 (J 32 (3 * i))) 0 15 (J 32 (3 * i + 1))) 0 16 (J 32 (3 * i + 2)) → mC c X ∧ zFr tC I X := by
        intro X hX
        have xo : ∀ o, o ≠ 0 → X o = J o := fun o ho => by rw [hX, zup_ne ho, zup_ne ho, zup_ne ho]
        have x0 : ∀ a, X 0 a = if a = 16 then J 32 (3 * i + 2) else if a = 15 then J 32 (3 * i + 1) else if a = 14 then J 32 (3 * i) else J 0 a := fun a => by rw [hX, zup_eq, zup_eq, zup_eq]
        refine ⟨⟨fun x hx => ?_, fun x hx => ?_, ?_, ?_, ?_⟩, fun o a ho => ?_⟩
        · rw [xo 5 (by decide)]
          exact h5 x (by omega)
        · rw [xo 4 (by decide), hJo 4 (by decide)]
          exact h4 x hx
        · rw [x0, if_neg (by decide), if_neg (by decide), if_pos rfl, j32]
          exact k3
        · rw [x0, if_neg (by decide), if_pos rfl, j32]
          exact k4
        · rw [x0, if_pos rfl, j32]
          exact k5
        · have n5 : o ≠ 5 := fun z => by subst z; cases ho
          have n4 : o ≠ 4 := fun z => by subst z; cases ho
          by_cases d : o = 0
          · subst d
            rw [x0]
            have m14 : a ≠ 14 := fun z => by subst z; cases ho
            have m15 : a ≠ 15 := fun z => by subst z; cases ho
            have m16 : a ≠ 16 := fun z => by subst z; cases ho
            rw [if_neg m16, if_neg m15, if_neg m14, hJo 0 n5, hKo 0 n4]
          · rw [xo o d, hJo o n5, hKo o n4]
      refine J' _ ?_
      show zup (zup (zup J 0 14 (J 32 ((3 : Int32) * nI i).toNatClampNeg)) 0 15 (zup J 0 14 (J 32 ((3 : Int32) * nI i).toNatClampNeg) 32 ((3 : Int32) * nI i + 1).toNatClampNeg)) 0 16 (zup (zup J 0 14 (J 32 ((3 : Int32) * nI i).toNatClampNeg)) 0 15 (zup J 0 14 (J 32 ((3 : Int32) * nI i).toNatClampNeg) 32 ((3 : Int32) * nI i + 1).toNatClampNeg) 32 ((3 : Int32) * nI i + 2).toNatClampNeg) = _
      rw [zup_ne (o' := 32) (by decide), zup_ne (o' := 32) (by decide), zup_ne (o' := 32) (by decide), c0, c1, c2]
    | succ j ih =>
      intro k hk J h5 hJo
      have ei : (177147 : Int32) * nI i + nI k = nI (177147 * i + k) := by rw [show (177147 : Int32) = nI 177147 from rfl, pk_mul, nI_add]
      have ec : ((177147 : Int32) * nI i + nI k).toNatClampNeg = 177147 * i + k := by rw [ei, nI_clamp (by omega)]
      have ek : (nI k).toNatClampNeg = k := nI_clamp (by omega)
      refine b111_35 (pk_le 177147 k (fun z => absurd z (by omega)) (fun _ => And.intro (by rw [ei]; exact vp_in_nI (by omega) (by decide)) (And.intro (vp_in_nI (by omega) (by decide)) ?_)) rfl rfl (by omega) (by omega))
      have qq := ih (k + 1) (by omega) (zup J 5 (nI k).toNatClampNeg (J 31 ((177147 : Int32) * nI i + nI k).toNatClampNeg)) (fun x hx => ?_) (fun o ho => by rw [zup_ne ho]; exact hJo o ho)
      · rw [← nI_1] at qq
        exact qq
      · rw [ec, ek, zup_eq]
        by_cases d : x = k
        · rw [if_pos d, d, hJo 31 (by decide), hKo 31 (by decide)]
          exact k1 k (by omega)
        · rw [if_neg d]
          exact h5 x (by omega)
  have b0 : ∀ j k : Nat, k + j = 19683 → ∀ J : zI, (∀ x, x < k → J 4 x = zbo (c.2.1 x)) → (∀ o, o ≠ 4 → J o = I o) → zQ G 111 n post 2 [some (.ref 0), some (.int (nI i)), some (.int (nI k))] [] J L (zR1 q) := by
    intro j
    induction j with
    | zero =>
      intro k hk J h4 hJo
      refine b111_2 (pk_le 19683 k (fun _ => b111_33 (b1 J (fun x hx => h4 x (by omega)) hJo 177147 0 (by omega) J (fun x hx => absurd hx (by omega)) (fun _ _ => rfl))) (fun z => absurd z (by omega)) rfl rfl (by omega) (by omega))
    | succ j ih =>
      intro k hk J h4 hJo
      have ei : (19683 : Int32) * nI i + nI k = nI (19683 * i + k) := by rw [show (19683 : Int32) = nI 19683 from rfl, pk_mul, nI_add]
      have ec : ((19683 : Int32) * nI i + nI k).toNatClampNeg = 19683 * i + k := by rw [ei, nI_clamp (by omega)]
      have ek : (nI k).toNatClampNeg = k := nI_clamp (by omega)
      refine b111_2 (pk_le 19683 k (fun z => absurd z (by omega)) (fun _ => And.intro (by rw [ei]; exact vp_in_nI (by omega) (by decide)) (And.intro (vp_in_nI (by omega) (by decide)) ?_)) rfl rfl (by omega) (by omega))
      have qq := ih (k + 1) (by omega) (zup J 4 (nI k).toNatClampNeg (vp_nar .boolean (J 30 ((19683 : Int32) * nI i + nI k).toNatClampNeg))) (fun x hx => ?_) (fun o ho => by rw [zup_ne ho]; exact hJo o ho)
      · rw [← nI_1] at qq
        exact qq
      · rw [ec, ek, zup_eq]
        by_cases d : x = k
        · rw [if_pos d, d, hJo 30 (by decide), k2 k (by omega), zbo_nar2]
        · rw [if_neg d]
          exact h4 x (by omega)
  exact zin0 rfl rfl rfl (b111_0 (b0 19683 0 (by omega) I (fun x hx => absurd hx (by omega)) (fun _ _ => rfl)))
theorem c_in02 {x : Int32} {R : zR} (h1 : ∀ i, x = nI i → i < 3 → post (some (.int 1)) I L R) (h0 : xOut x 3 → post (some (.int 0)) I L R) : zC G (n + 1) 2 [.int x, .int 0, .int 2] I L R post := by
  rcases pk_ix x (n := 3) (by omega) with c | c | ⟨k, hk, rfl⟩
  · refine c_in ?_
    rw [show (2 : Int32) = nI 3 - 1 from rfl, in_out (by omega) (Or.inl c)]
    exact h0 (Or.inl c)
  · refine c_in ?_
    rw [show (2 : Int32) = nI 3 - 1 from rfl, in_out (by omega) (Or.inr c)]
    exact h0 (Or.inr c)
  · refine c_inN (x := k) (lo := 0) (hi := 2) rfl rfl rfl (by omega) (by omega) (by omega) ?_
    rw [decide_eq_true (by omega)]
    exact h1 k rfl hk
def tKP (o k : Nat) : Bool := tK o k || Nat.beq o 29 || (Nat.beq o 0 && Nat.beq k 34)
theorem c_keep {x : Int32} (hc : mC c I) (h1 : ∀ i, x = nI i → i < 3 → ∀ I' : zI, mK i c I' → (∀ j c', j < 4 → j ≠ i → mK j c' I → mK j c' I') → I' 29 i = 1 → (∀ j, j ≠ i → I' 29 j = I 29 j) → zFr tKP I I' → post (some (.int 1)) I' L (zR1 q)) (h0 : xOut x 3 → post (some (.int 0)) (zup I 0 34 0) L (zR1 q)) : zC G (n + 2) 112 [.ref 0, .int x] I L (zR1 q) post := by
  have hc' := mC_34 (v := 0) hc
  refine zin0 rfl rfl rfl (b112_0 (c_in02 (fun i hx hi => ?_) (fun ho => ?_)))
  · subst hx
    have ec : (nI i).toNatClampNeg = i := nI_clamp (by omega)
    refine And.intro (fun _ => b112_16 (c_keepIn (by omega) hc' fun I2 hk hoth hf => And.intro (vp_in_nI hi (by decide)) (And.intro rfl ?_))) (fun z => absurd z (by decide))
    have e : vp_nar .boolean 1 = 1 := by decide
    refine h1 i rfl hi (zup I2 29 (nI i).toNatClampNeg (vp_nar .boolean 1)) ?_ ?_ ?_ ?_ ?_
    · unfold mK
      rw [zup_ne (by decide), zup_ne (by decide), zup_ne (by decide)]
      exact hk
    · intro j c' hj hji hkj
      have := hoth j c' hj hji (by unfold mK; rw [zup_ne (by decide), zup_ne (by decide), zup_ne (by decide)]; exact hkj)
      unfold mK
      rw [zup_ne (by decide), zup_ne (by decide), zup_ne (by decide)]
      exact this
    · rw [ec, zup_self, e]
    · intro j hj
      rw [ec, zup_k hj, hf 29 j rfl, zup_ne (by decide)]
    · refine zFr_up (zFr_tr (zFr_up (zFr_0 _ _) rfl) (fun o k z => hf o k ?_)) rfl
      unfold tKP at z
      simp only [Bool.or_eq_false_iff] at z
      exact z.1.1
  · exact And.intro (fun z => absurd rfl z) (fun _ => And.intro rfl (h0 ho))
theorem c_again {x : Int32} {kp : Nat → Bool} {kc : Nat → sC} (hkp : ∀ i, i < 3 → I 29 i = zbo (kp i)) (hkc : ∀ i, i < 3 → kp i = true → mK i (kc i) I) (h1 : ∀ i, x = nI i → i < 3 → kp i = true → ∀ I' : zI, mC (kc i) I' → zFr tC (zup I 0 34 0) I' → post (some (.int 1)) I' L (zR1 q)) (h0 : (∀ i, x = nI i → i < 3 → kp i = false) → post (some (.int 0)) (zup I 0 34 0) L (zR1 q)) : zC G (n + 2) 113 [.ref 0, .int x] I L (zR1 q) post := by
  refine zin0 rfl rfl rfl (b113_0 (c_in02 (fun i hx hi => ?_) (fun ho => ?_)))
  · subst hx
    have e29 : zup I 0 34 0 29 (nI i).toNatClampNeg = zbo (kp i) := by rw [nI_clamp (by omega), zup_ne (by decide)]; exact hkp i hi
    refine And.intro (fun z => absurd z (by decide)) (fun _ => And.intro (vp_in_nI hi (by decide)) ?_)
    show (¬ zup I 0 34 0 29 (nI i).toNatClampNeg = 0 → _) ∧ (zup I 0 34 0 29 (nI i).toNatClampNeg = 0 → _)
    rw [e29]
    refine zbo_ne (fun z => b113_25 (c_bringBack (c := kc i) (by omega) ?_ fun I2 hc2 hf2 => And.intro rfl (h1 i rfl hi z I2 hc2 hf2))) (fun z => b113_23 (And.intro rfl (h0 fun j hj hj3 => ?_)))
    · unfold mK
      rw [zup_ne (by decide), zup_ne (by decide), zup_ne (by decide)]
      exact hkc i hi z
    · rw [← nI_inj (by omega) (by omega) hj]
      exact z
  · exact And.intro (fun _ => b113_23 (And.intro rfl (h0 fun j hj hj3 => absurd ho (xOut_no hj3 (by omega) hj)))) (fun z => absurd rfl z)
theorem c_join {x : Int32} {kp : Nat → Bool} {kc : Nat → sC} (hall : cAll c) (hc : mC c I) (hu : I 0 35 = 0) (hkp : ∀ i, i < 3 → I 29 i = zbo (kp i)) (hkc : ∀ i, i < 3 → kp i = true → mK i (kc i) I ∧ cAll (kc i)) (h1 : ∀ i, x = nI i → i < 3 → kp i = true → ∀ I' : zI, mC (sJn (kc i) c 19683).1 I' → zFr tC (zup I 0 34 0) I' → post (some (.int (nI (sJn (kc i) c 19683).2))) I' L (zR1 q)) (h0 : (∀ i, x = nI i → i < 3 → kp i = false) → post (some (.int (-1))) (zup I 0 34 0) L (zR1 q)) : zC G (n + 4) 114 [.ref 0, .int x] I L (zR1 q) post := by
  refine zin0 rfl rfl rfl (b114_0 (c_in02 (fun i hx hi => ?_) (fun ho => ?_)))
  · subst hx
    have e29 : zup I 0 34 0 29 (nI i).toNatClampNeg = zbo (kp i) := by rw [nI_clamp (by omega), zup_ne (by decide)]; exact hkp i hi
    refine And.intro (fun z => absurd z (by decide)) (fun _ => And.intro (vp_in_nI hi (by decide)) ?_)
    show (¬ zup I 0 34 0 29 (nI i).toNatClampNeg = 0 → _) ∧ (zup I 0 34 0 29 (nI i).toNatClampNeg = 0 → _)
    rw [e29]
    refine zbo_ne (fun z => b114_25 ?_) (fun z => b114_23 (h0 fun j hj hj3 => ?_))
    · have qq := h1 i rfl hi z
      obtain ⟨hk, hka⟩ := hkc i hi z
      generalize kc i = ck at *
      have key : ∀ j b : Nat, b + j = 19683 → ∀ I' : zI, mC (sJn ck c b).1 I' → zFr tC (zup I 0 34 0) I' → zQ G 114 (n + 3) post 29 [some (.ref 0), some (.int (nI i)), some (.int (nI (sJn ck c b).2)), some (.int (nI b)), none] [] I' L (zR1 q) := by
        intro j
        induction j with
        | zero =>
          intro b hb I' hc' hf'
          have e : b = 19683 := by omega
          subst e
          exact b114_29 (pk_le 19683 19683 (fun _ => b114_114 (qq I' hc' hf')) (fun z => absurd z (by omega)) rfl rfl (by omega) (by omega))
        | succ j ih =>
          intro b hb I' hc' hf'
          have ei : (19683 : Int32) * nI i + nI b = nI (19683 * i + b) := by rw [show (19683 : Int32) = nI 19683 from rfl, pk_mul, nI_add]
          have eop : I' 30 ((19683 : Int32) * nI i + nI b).toNatClampNeg = zbo (ck.2.1 b) := by rw [ei, nI_clamp (by omega), hf' 30 _ rfl, zup_ne (by decide)]; exact hk.2.1 b (by omega)
          have eb : (nI b).toNatClampNeg = b := nI_clamp (by omega)
          refine b114_29 (pk_le 19683 b (fun z => absurd z (by omega)) (fun _ => And.intro (by rw [ei]; exact vp_in_nI (by omega) (by decide)) ?_) rfl rfl (by omega) (by omega))
          show (¬ I' 30 ((19683 : Int32) * nI i + nI b).toNatClampNeg = 0 → _) ∧ (I' 30 ((19683 : Int32) * nI i + nI b).toNatClampNeg = 0 → _)
          rw [eop]
          refine zbo_ne (fun z2 => b114_54 (And.intro (vp_in_nI (by omega) (by decide)) ?_)) (fun z2 => b114_108 ?_)
          · have es : sJn ck c (b + 1) = sJb ck b (cSetOp (sJn ck c b).1 b true, (sJn ck c b).2) 9 := by rw [sJn, if_pos z2]
            have hall2 : cAll (cSetOp (sJn ck c b).1 b true) := sJn_all hall b (by omega)
            have inner : ∀ j m : Nat, m + j = 9 → ∀ I2 : zI, mC (sJb ck b (cSetOp (sJn ck c b).1 b true, (sJn ck c b).2) m).1 I2 → zFr tC (zup I 0 34 0) I2 → zQ G 114 (n + 3) post 64 [some (.ref 0), some (.int (nI i)), some (.int (nI (sJb ck b (cSetOp (sJn ck c b).1 b true, (sJn ck c b).2) m).2)), some (.int (nI b)), some (.int (nI m))] [] I2 L (zR1 q) := by
              intro j
              induction j with
              | zero =>
                intro m hm I2 hc2 hf2
                have e : m = 9 := by omega
                subst e
                have q2 := ih (b + 1) (by omega) I2 (by rw [es]; exact hc2) hf2
                rw [es, ← nI_1] at q2
                exact b114_64 (pk_le 9 9 (fun _ => b114_108 (zP_lv (by exact ⟨rfl, rfl, rfl, rfl, trivial⟩) q2)) (fun z => absurd z (by omega)) rfl rfl (by omega) (by omega))
              | succ j ihm =>
                intro m hm I2 hc2 hf2
                have hk0 : 9 * b + m < 177147 := by omega
                have hbk := cAll_bd hka hk0
                have hb2 := cAll_bd (sJb_all (ck := ck) (s := (cSetOp (sJn ck c b).1 b true, (sJn ck c b).2)) (by omega) hall2 m (by omega)) hk0
                have e9 : (9 : Int32) * nI b + nI m = nI (9 * b + m) := by rw [show (9 : Int32) = nI 9 from rfl, pk_mul, nI_add]
                have e31 : (177147 : Int32) * nI i + (9 : Int32) * nI b + nI m = nI (177147 * i + (9 * b + m)) := by rw [show (177147 : Int32) = nI 177147 from rfl, show (9 : Int32) = nI 9 from rfl, pk_mul, pk_mul, nI_add, nI_add, Nat.add_assoc]
                have ek : I2 31 ((177147 : Int32) * nI i + (9 : Int32) * nI b + nI m).toNatClampNeg = nI (ck.1 (9 * b + m)) := by rw [e31, nI_clamp (by omega), hf2 31 _ rfl, zup_ne (by decide)]; exact hk.1 _ hk0
                refine b114_64 (pk_le 9 m (fun z => absurd z (by omega)) (fun _ => And.intro (by rw [e31]; exact vp_in_nI (by omega) (by decide)) ?_) rfl rfl (by omega) (by omega))
                show zC G (n + 3) 35 [.ref 0, .int ((9 : Int32) * nI b + nI m), .int (I2 31 ((177147 : Int32) * nI i + (9 : Int32) * nI b + nI m).toNatClampNeg)] I2 L (zR1 q) _
                rw [e9, ek]
                have hu2 : mU none I2 := (hf2 0 35 rfl).trans hu
                refine c_give (w := none) hk0 (by omega) (by omega) (by omega) hc2 hu2 trivial fun I3 w3 hc3 _ _ hf3 => ?_
                have q2 := ihm (m + 1) (by omega) I3 hc3 (zFr_tr hf2 hf3)
                rw [← nI_1, show (sJb ck b (cSetOp (sJn ck c b).1 b true, (sJn ck c b).2) (m + 1)).2 = (sJb ck b (cSetOp (sJn ck c b).1 b true, (sJn ck c b).2) m).2 + min (ck.1 (9 * b + m)) (sJb ck b (cSetOp (sJn ck c b).1 b true, (sJn ck c b).2) m).1.2.2.1 from rfl, ← nI_add] at q2
                exact q2
            refine inner 9 0 (by omega) (zup I' 4 (nI b).toNatClampNeg (vp_nar .boolean 1)) ?_ (zFr_up hf' rfl)
            refine ⟨by rw [zup_ne (by decide)]; exact hc'.1, fun k hk2 => ?_, hc'.2.2.1, hc'.2.2.2.1, hc'.2.2.2.2⟩
            rw [eb, zup_eq, show vp_nar .boolean 1 = 1 by decide]
            show _ = zbo (fup (sJn ck c b).1.2.1 b true k)
            unfold fup
            by_cases d : k = b
            · rw [if_pos d, if_pos d]
              rfl
            · rw [if_neg d, if_neg d]
              exact hc'.2.1 k hk2
          · have es : sJn ck c (b + 1) = sJn ck c b := by rw [sJn, if_neg (by rw [z2]; exact Bool.false_ne_true)]
            have q2 := ih (b + 1) (by omega) I' (by rw [es]; exact hc') hf'
            rw [es, ← nI_1] at q2
            exact q2
      exact key 19683 0 (by omega) (zup I 0 34 0) (mC_34 hc) (zFr_0 _ _)
    · rw [← nI_inj (by omega) (by omega) hj]
      exact z
  · exact And.intro (fun _ => b114_23 (h0 fun j hj hj3 => absurd ho (xOut_no hj3 (by omega) hj))) (fun z => absurd rfl z)
end
