-- ===== the reference: what was watched; the row =====
abbrev zwt : Type := Nat × Nat × Nat × Nat
def waOk (wt : zwt) : Prop := wt.1 ≤ 2 ∧ wt.2.1 ≤ 9 ∧ wt.2.2.1 ≤ 99 ∧ wt.2.2.2 ≤ 999
def mWa (wa : List zwt) (I : zI) : Prop := wa.length ≤ 12 ∧ I 0 66 = nI wa.length ∧ ∀ j wt, wa[j]? = some wt → waOk wt ∧ I 36 j = nI wt.1 ∧ I 37 j = nI wt.2.1 ∧ I 38 j = nI wt.2.2.1 ∧ I 39 j = nI wt.2.2.2
def xWatch (x y z u : Int32) (wt : zwt) : Prop := x = nI wt.1 ∧ y = nI wt.2.1 ∧ z = nI wt.2.2.1 ∧ u = nI wt.2.2.2 ∧ waOk wt
/-- the beads that the rule r leaves -/
def sPd (rl : zrl) (r e i b : Nat) : Nat := ((b : Int) + sAmt rl r e i).toNat
def sFt (rl : zrl) (wa : List zwt) (r : Nat) : Bool := wa.all fun wt => decide (sPd rl r wt.1 wt.2.1 wt.2.2.1 = wt.2.2.2)
def sFB (f : Nat → Bool) : Nat → Nat
  | 0 => 0
  | r + 1 => sFB f r + (if f r = true then 2 ^ r else 0)
theorem sFB_lt (f : Nat → Bool) : ∀ n, sFB f n < 2 ^ n
  | 0 => Nat.one_pos
  | n + 1 => by
    have q := sFB_lt f n
    rw [sFB, Nat.pow_succ]
    split <;> omega
theorem sFB_bit (f : Nat → Bool) : ∀ n r, r < n → (sFB f n / 2 ^ r % 2 = if f r = true then 1 else 0)
  | 0, _, h => absurd h (Nat.not_lt_zero _)
  | n + 1, r, h => by
    have l := sFB_lt f n
    rw [sFB]
    by_cases c : r = n
    · subst c
      split
      · rw [Nat.add_div_right _ (Nat.pow_pos (by decide)), Nat.div_eq_of_lt l]
      · rw [Nat.add_zero, Nat.div_eq_of_lt l]
    · have q := sFB_bit f n r (by omega)
      split
      · have e : 2 ^ n = 2 ^ r * (2 * 2 ^ (n - r - 1)) := by
          rw [← Nat.pow_succ', ← Nat.pow_add]
          congr 1
          omega
        rw [e, Nat.add_mul_div_left _ _ (Nat.pow_pos (by decide)), Nat.add_mul_mod_self_left, q]
      · rw [Nat.add_zero, q]
theorem sFB_0 (f : Nat → Bool) (n : Nat) : sFB f n = 0 ↔ ∀ r, r < n → f r = false := by
  constructor
  · intro h r hr
    have q := sFB_bit f n r hr
    rw [h, Nat.zero_div] at q
    cases c : f r with
    | false => rfl
    | true =>
      rw [c, if_pos rfl] at q
      cases q
  · intro h
    induction n with
    | zero => rfl
    | succ n ih =>
      rw [sFB, ih (fun r hr => h r (by omega)), h n (by omega)]
      rfl
def sNwk (rl : zrl) (ft : Nat → Bool) (r e i : Nat) : Nat → Bool
  | 0 => true
  | o + 1 => sNwk rl ft r e i o && !(ft o && decide (sPd rl o e i 50 = sPd rl r e i 50))
def sPn (rl : zrl) (ft : Nat → Bool) (nr k : Nat) : Nat := sCB (fun r => ft r && sNwk rl ft r (k / 10) (k % 10) r) nr
def sPt (rl : zrl) (ft : Nat → Bool) (nr : Nat) : Nat → Nat × Nat
  | 0 => (0, 0)
  | k + 1 => if (sPt rl ft nr k).1 < sPn rl ft nr k then (sPn rl ft nr k, k) else sPt rl ft nr k
theorem sPt_le (rl : zrl) (ft : Nat → Bool) (nr : Nat) : ∀ k, (sPt rl ft nr k).1 ≤ nr ∧ (sPt rl ft nr k).2 ≤ k
  | 0 => ⟨Nat.zero_le _, Nat.le_refl _⟩
  | k + 1 => by
    have q := sPt_le rl ft nr k
    rw [sPt]
    split
    · exact ⟨sCB_le _ _, by show k ≤ k + 1; omega⟩
    · exact ⟨q.1, by omega⟩
set_option maxRecDepth 100000 in
theorem zor8 : ∀ r, r < 8 → ∀ a, a < 2 ^ r → nI a ||| nI (2 ^ r) = nI (a + 2 ^ r) := by decide +kernel
section
variable {G : zG} {n : Nat} {I : zI} {L : zL} {q : zq} {post : zPo} {g : zg} {c : sC} {w : uW} {fr : Nat → Nat} {f nr nf : Nat} {F : zfo} {rl : zrl} {ru : Option Nat} {wa : List zwt}
theorem mWa_of {I' : zI} (h : mWa wa I) (h66 : I' 0 66 = I 0 66) (h36 : I' 36 = I 36) (h37 : I' 37 = I 37) (h38 : I' 38 = I 38) (h39 : I' 39 = I 39) : mWa wa I' := by
  unfold mWa
  rw [h66, h36, h37, h38, h39]
  exact h
theorem mRl_34 {v : Int32} (h : mRl nr rl ru I) : mRl nr rl ru (zup I 0 34 v) := mRl_of h rfl rfl (zup_ne (by decide)) (zup_ne (by decide)) (zup_ne (by decide))
theorem mWa_34 {v : Int32} (h : mWa wa I) : mWa wa (zup I 0 34 v) := mWa_of h rfl (zup_ne (by decide)) (zup_ne (by decide)) (zup_ne (by decide)) (zup_ne (by decide))
def tWa (o k : Nat) : Bool := Nat.beq o 36 || Nat.beq o 37 || Nat.beq o 38 || Nat.beq o 39 || (Nat.beq o 0 && (Nat.beq k 66 || Nat.beq k 34))
theorem c_watch {x y z u : Int32} (hwa : mWa wa I) (h1 : ∀ wt, xWatch x y z u wt → wa.length < 12 → ∀ I' : zI, mWa (wa ++ [wt]) I' → I' 0 34 = 0 → zFr tWa I I' → post (some (.int (nI (wa.length + 1)))) I' L (zR1 q)) (h0 : (∀ wt, xWatch x y z u wt → wa.length = 12) → post (some (.int (-1))) (zup I 0 34 0) L (zR1 q)) : zC G (n + 2) 118 [.ref 0, .int x, .int y, .int z, .int u] I L (zR1 q) post := by
  have zero : (∀ wt, xWatch x y z u wt → wa.length = 12) → zQ G 118 (n + 1) post 55 [some (.ref 0), some (.int x), some (.int y), some (.int z), some (.int u)] [] (zup I 0 34 0) L (zR1 q) := fun k => b118_55 (h0 k)
  obtain ⟨hl, h66, hw⟩ := id hwa
  refine zin0 rfl rfl rfl (b118_0 (c_in0N (m := 2) rfl (by omega) (fun a ha ha2 => And.intro (fun w => absurd w (by decide)) (fun _ => ?_)) (fun ho => And.intro (fun _ => zero fun wt hx => absurd ho (xOut_no (k := wt.1) (by have := hx.2.2.2.2.1; omega) (by omega) hx.1)) (fun w => absurd rfl w))))
  refine c_in0N (m := 9) rfl (by omega) (fun b hb hb2 => And.intro (fun w => absurd w (by decide)) (fun _ => ?_)) (fun ho => And.intro (fun _ => zero fun wt hx => absurd ho (xOut_no (k := wt.2.1) (by have := hx.2.2.2.2.2.1; omega) (by omega) hx.2.1)) (fun w => absurd rfl w))
  refine c_in0N (m := 99) rfl (by omega) (fun d hd hd2 => And.intro (fun w => absurd w (by decide)) (fun _ => ?_)) (fun ho => And.intro (fun _ => zero fun wt hx => absurd ho (xOut_no (k := wt.2.2.1) (by have := hx.2.2.2.2.2.2.1; omega) (by omega) hx.2.2.1)) (fun w => absurd rfl w))
  refine c_in0N (m := 999) rfl (by omega) (fun e he he2 => And.intro (fun w => absurd w (by decide)) (fun _ => ?_)) (fun ho => And.intro (fun _ => zero fun wt hx => absurd ho (xOut_no (k := wt.2.2.2) (by have := hx.2.2.2.2.2.2.2; omega) (by omega) hx.2.2.2.1)) (fun w => absurd rfl w))
  subst ha hb hd he
  refine pk_ne wa.length 12 (fun z2 => b118_57 ?_) (fun z2 => zero fun _ _ => z2) h66 rfl (by omega) (by omega)
  have v : ∀ J : zI, J 0 66 = nI wa.length → vp_in (J 0 66) 12 := fun J hJ => by rw [hJ]; exact vp_in_nI (by omega) (by decide)
  have h66' : zup I 0 34 0 0 66 = nI wa.length := h66
  refine And.intro (v _ h66') (And.intro (v _ h66') (And.intro (v _ h66') (And.intro (v _ h66') (And.intro rfl ?_))))
  have ec : (zup I 0 34 0 0 66).toNatClampNeg = wa.length := by rw [h66', nI_clamp (by omega)]
  obtain ⟨J, hJ⟩ : ∃ J : zI, J = zup (zup (zup (zup (zup (zup I 0 34 0) 36 wa.length (nI a)) 37 wa.length (nI b)) 38 wa.length (nI d)) 39 wa.length (nI e)) 0 66 (nI (wa.length + 1)) := ⟨_, rfl⟩
  have e66 : J 0 66 = nI (wa.length + 1) := by rw [hJ, zup_self]
  have qq := h1 (a, b, d, e) ⟨rfl, rfl, rfl, rfl, ha2, hb2, hd2, he2⟩ (by omega) J ⟨by rw [snoc_len]; omega, by rw [snoc_len]; exact e66, fun j wt hj => ?_⟩ (by rw [hJ]; rfl) (by rw [hJ]; exact zFr_up (zFr_up (zFr_up (zFr_up (zFr_up (zFr_up (zFr_0 _ _) rfl) rfl) rfl) rfl) rfl) rfl)
  · show post (some (.int (zup (zup (zup (zup (zup (zup I 0 34 0) 36 (zup I 0 34 0 0 66).toNatClampNeg (nI a)) 37 (zup I 0 34 0 0 66).toNatClampNeg (nI b)) 38 (zup I 0 34 0 0 66).toNatClampNeg (nI d)) 39 (zup I 0 34 0 0 66).toNatClampNeg (nI e)) 0 66 (zup I 0 34 0 0 66 + 1) 0 66))) (zup (zup (zup (zup (zup (zup I 0 34 0) 36 (zup I 0 34 0 0 66).toNatClampNeg (nI a)) 37 (zup I 0 34 0 0 66).toNatClampNeg (nI b)) 38 (zup I 0 34 0 0 66).toNatClampNeg (nI d)) 39 (zup I 0 34 0 0 66).toNatClampNeg (nI e)) 0 66 (zup I 0 34 0 0 66 + 1)) L (zR1 q)
    rw [ec, h66', nI_1, zup_self, ← hJ]
    exact qq
  · have a36 : J 36 j = if j = wa.length then nI a else I 36 j := by rw [hJ, zup_ne (by decide), zup_ne (by decide), zup_ne (by decide), zup_ne (by decide), zup_eq, zup_ne (by decide)]
    have a37 : J 37 j = if j = wa.length then nI b else I 37 j := by rw [hJ, zup_ne (by decide), zup_ne (by decide), zup_ne (by decide), zup_eq, zup_ne (by decide), zup_ne (by decide)]
    have a38 : J 38 j = if j = wa.length then nI d else I 38 j := by rw [hJ, zup_ne (by decide), zup_ne (by decide), zup_eq, zup_ne (by decide), zup_ne (by decide), zup_ne (by decide)]
    have a39 : J 39 j = if j = wa.length then nI e else I 39 j := by rw [hJ, zup_ne (by decide), zup_eq, zup_ne (by decide), zup_ne (by decide), zup_ne (by decide), zup_ne (by decide)]
    rcases snoc_get hj with ⟨b1, b2⟩ | ⟨b1, b2⟩
    · rw [a36, a37, a38, a39, if_pos b1, if_pos b1, if_pos b1, if_pos b1, b2]
      exact ⟨⟨ha2, hb2, hd2, he2⟩, rfl, rfl, rfl, rfl⟩
    · rw [a36, a37, a38, a39, if_neg (by omega), if_neg (by omega), if_neg (by omega), if_neg (by omega)]
      exact hw j wt b2
theorem sAmt_bd {r e i : Nat} (h : mRl nr rl ru I) (hr : r < nr) (he : e < 3) (hi : i < 20) : -1980 ≤ sAmt rl r e i ∧ sAmt rl r e i ≤ 1980 := by
  obtain ⟨y1, y2, y3, y4⟩ := (h.2.2.2.2 r hr).1 e he
  unfold sAmt
  split
  · have a : rl.1 r e * ((i + 1 : Nat) : Int) ≥ -99 * ((i + 1 : Nat) : Int) := Int.mul_le_mul_of_nonneg_right y2 (by omega)
    have b : rl.1 r e * ((i + 1 : Nat) : Int) ≤ 99 * ((i + 1 : Nat) : Int) := Int.mul_le_mul_of_nonneg_right y3 (by omega)
    omega
  · omega
theorem c_paid {r e i b : Nat} (hrl : mRl nr rl ru I) (hr : r < nr) (he : e < 3) (hi : i < 20) (hb : b ≤ 1000) (h : post (some (.int (nI (sPd rl r e i b)))) I L (zR1 q)) : zC G (n + 1) 119 [.ref 0, .int (nI r), .int (nI e), .int (nI i), .int (nI b)] I L (zR1 q) post := by
  obtain ⟨y1, y2, y3, y4⟩ := (hrl.2.2.2.2 r hr).1 e he
  have hab := sAmt_bd hrl hr he hi
  have h8 := hrl.1
  have eri : (3 : Int32) * nI r + nI e = nI (3 * r + e) := by rw [show (3 : Int32) = nI 3 from rfl, pk_mul, nI_add]
  have inr : vp_in ((3 : Int32) * nI r + nI e) 24 := by rw [eri]; exact vp_in_nI (by omega) (by decide)
  have ea : I 7 ((3 : Int32) * nI r + nI e).toNatClampNeg = iI (rl.1 r e) := by rw [eri, nI_clamp (by omega), y1]
  have et : I 8 ((3 : Int32) * nI r + nI e).toNatClampNeg = zbo (rl.2.1 r e) := by rw [eri, nI_clamp (by omega), y4]
  have fin : ∀ mu : Int32, mu = iI (if rl.2.1 r e = true then ((i + 1 : Nat) : Int) else 1) → zQ G 119 n post 33 [some (.ref 0), some (.int (nI r)), some (.int (nI e)), some (.int (nI i)), some (.int (nI b))] [.int mu, .int (iI (rl.1 r e)), .int (nI b), .int 0] I L (zR1 q) := by
    intro mu hmu
    have e1 : nI b + iI (rl.1 r e) * mu = iI ((b : Int) + sAmt rl r e i) := by
      rw [hmu, iI_mul, ← iI_n, iI_add]
      rfl
    refine b119_33 ?_
    show post (some (.int (if 0 < nI b + iI (rl.1 r e) * mu then nI b + iI (rl.1 r e) * mu else 0))) I L (zR1 q)
    rw [e1]
    have e2 : (if 0 < iI ((b : Int) + sAmt rl r e i) then iI ((b : Int) + sAmt rl r e i) else 0) = nI (sPd rl r e i b) := by
      by_cases z : 0 < (b : Int) + sAmt rl r e i
      · rw [if_pos (show (0 : Int32) < iI ((b : Int) + sAmt rl r e i) from (iI_lt (a := 0) (by omega) (by omega) (by omega) (by omega)).mpr z), iI_nat (by omega)]
        rfl
      · rw [if_neg (show ¬ (0 : Int32) < iI ((b : Int) + sAmt rl r e i) from fun w => z ((iI_lt (a := 0) (by omega) (by omega) (by omega) (by omega)).mp w))]
        unfold sPd
        rw [Int.toNat_of_nonpos (by omega)]
        rfl
    rw [e2]
    exact h
  refine zin0 rfl rfl rfl (b119_0 (And.intro inr (And.intro inr ?_)))
  show (I 8 ((3 : Int32) * nI r + nI e).toNatClampNeg = 0 → _) ∧ (¬ I 8 ((3 : Int32) * nI r + nI e).toNatClampNeg = 0 → _)
  rw [et]
  refine zbo_eq (fun z => b119_32 ?_) (fun z => ?_)
  · have qq := fin 1 (by rw [if_neg (by rw [z]; exact Bool.false_ne_true)]; rfl)
    rw [← ea] at qq
    exact qq
  · have qq := fin (nI i + 1) (by rw [if_pos z, nI_1]; rfl)
    rw [← ea] at qq
    exact qq
theorem sPd_lt {r e i b : Nat} (hrl : mRl nr rl ru I) (hr : r < nr) (he : e < 3) (hi : i < 20) (hb : b ≤ 1000) : sPd rl r e i b ≤ 3000 := by
  have := sAmt_bd hrl hr he hi
  unfold sPd
  omega
theorem c_fits1 {r : Nat} (hrl : mRl nr rl ru I) (hwa : mWa wa I) (hr : r < nr) (h : post (some (.int (zbo (sFt rl wa r)))) I L (zR1 q)) : zC G (n + 2) 120 [.ref 0, .int (nI r)] I L (zR1 q) post := by
  obtain ⟨hl, h66, hw⟩ := id hwa
  have key : ∀ (us vs : List zwt), vs ++ us = wa → (us.all fun wt => decide (sPd rl r wt.1 wt.2.1 wt.2.2.1 = wt.2.2.2)) = sFt rl wa r → zQ G 120 (n + 1) post 2 [some (.ref 0), some (.int (nI r)), some (.int (nI vs.length))] [] I L (zR1 q) := by
    intro us
    induction us with
    | nil =>
      intro vs hv hs
      rw [List.append_nil] at hv
      subst hv
      rw [← hs] at h
      exact b120_2 (pk_le vs.length vs.length (fun _ => b120_50 (And.intro rfl h)) (fun z => absurd z (by omega)) h66 rfl (by omega) (by omega))
    | cons u us ih =>
      intro vs hv hs
      have hlen : vs.length + (us.length + 1) = wa.length := by rw [← hv, List.length_append]; rfl
      obtain ⟨⟨o1, o2, o3, o4⟩, x1, x2, x3, x4⟩ := hw vs.length u (by rw [← hv, List.getElem?_append_right (Nat.le_refl _), Nat.sub_self]; rfl)
      have ec : (nI vs.length).toNatClampNeg = vs.length := nI_clamp (by omega)
      have v : vp_in (nI vs.length) 12 := vp_in_nI (by omega) (by decide)
      have hpl := sPd_lt (r := r) (e := u.1) (i := u.2.1) (b := u.2.2.1) hrl hr (by omega) (by omega) (by omega)
      refine b120_2 (pk_le wa.length vs.length (fun z => absurd z (by omega)) (fun _ => And.intro v (And.intro v (And.intro v ?_))) h66 rfl (by omega) (by omega))
      show zC G (n + 1) 119 [.ref 0, .int (nI r), .int (I 36 (nI vs.length).toNatClampNeg), .int (I 37 (nI vs.length).toNatClampNeg), .int (I 38 (nI vs.length).toNatClampNeg)] I L (zR1 q) _
      rw [ec, x1, x2, x3]
      refine c_paid hrl hr (by omega) (by omega) (by omega) (And.intro v ?_)
      have x4' : I 39 (nI vs.length).toNatClampNeg = nI u.2.2.2 := by rw [ec, x4]
      rw [List.all_cons] at hs
      refine pk_eq (sPd rl r u.1 u.2.1 u.2.2.1) u.2.2.2 (fun z => b120_44 ?_) (fun z => And.intro rfl ?_) rfl x4' (by omega) (by omega)
      · rw [decide_eq_true z, Bool.true_and] at hs
        have qq := ih (vs ++ [u]) (by rw [List.append_assoc]; exact hv) hs
        rw [snoc_len, ← nI_1] at qq
        exact qq
      · rw [decide_eq_false z, Bool.false_and] at hs
        rw [← hs] at h
        exact h
  exact zin0 rfl rfl rfl (b120_0 (key wa [] rfl rfl))
theorem c_fits (hrl : mRl nr rl ru I) (hwa : mWa wa I) (h : post (some (.int (nI (sFB (sFt rl wa) nr)))) (zup I 0 34 0) L (zR1 q)) : zC G (n + 3) 121 [.ref 0] I L (zR1 q) post := by
  have h8 := hrl.1
  have hrl' := mRl_34 (v := 0) hrl
  have hwa' := mWa_34 (v := 0) hwa
  have h18 : zup I 0 34 0 0 18 = nI nr := hrl.2.1
  have key : ∀ j i : Nat, i + j = nr → zQ G 121 (n + 2) post 9 [some (.ref 0), some (.int (nI (sFB (sFt rl wa) i))), some (.int (nI i))] [] (zup I 0 34 0) L (zR1 q) := by
    intro j
    induction j with
    | zero =>
      intro i hi
      have e : i = nr := by omega
      subst e
      exact b121_9 (pk_le i i (fun _ => b121_41 h) (fun z => absurd z (by omega)) h18 rfl (by omega) (by omega))
    | succ j ih =>
      intro i hi
      have qq := ih (i + 1) (by omega)
      rw [← nI_1, sFB] at qq
      refine b121_9 (pk_le nr i (fun z => absurd z (by omega)) (fun _ => c_fits1 hrl' hwa' (by omega) (zbo_eq (fun z => b121_32 (b121_33 ?_)) (fun z => b121_33 ?_))) h18 rfl (by omega) (by omega))
      · rw [if_neg (by rw [z]; exact Bool.false_ne_true), show sFB (sFt rl wa) i + 0 = sFB (sFt rl wa) i from rfl] at qq
        have e : nI (sFB (sFt rl wa) i) ||| 0 = nI (sFB (sFt rl wa) i) := Int32.or_zero
        rw [← e] at qq
        exact qq
      · have e : nI (sFB (sFt rl wa) i) ||| ((1 : Int32) <<< (nI i &&& 31)) = nI (sFB (sFt rl wa) i + 2 ^ i) := by rw [zshl1 (by omega)]; exact zor8 i (by omega) _ (sFB_lt _ _)
        rw [if_pos z, ← e] at qq
        exact qq
  exact zin0 rfl rfl rfl (b121_0 (key nr 0 (by omega)))
theorem c_isNew {bits r e i : Nat} {ft : Nat → Bool} (hrl : mRl nr rl ru I) (hr : r < nr) (he : e < 3) (hi : i < 20) (hb : bits < 256) (hbit : ∀ o, o < nr → bits / 2 ^ o % 2 = if ft o = true then 1 else 0) (h : post (some (.int (zbo (sNwk rl ft r e i r)))) I L (zR1 q)) : zC G (n + 2) 123 [.ref 0, .int (nI bits), .int (nI r), .int (nI e), .int (nI i)] I L (zR1 q) post := by
  have h8 := hrl.1
  have no : ∀ o j, sNwk rl ft r e i o = false → sNwk rl ft r e i (o + j) = false := by
    intro o j hf
    induction j with
    | zero => exact hf
    | succ j ih =>
      rw [show o + (j + 1) = (o + j) + 1 from rfl, sNwk, ih]
      rfl
  have key : ∀ j o : Nat, o + j = r → sNwk rl ft r e i o = true → zQ G 123 (n + 1) post 3 [some (.ref 0), some (.int (nI bits)), some (.int (nI r)), some (.int (nI e)), some (.int (nI i)), some (.int (nI o))] [] I L (zR1 q) := by
    intro j
    induction j with
    | zero =>
      intro o ho hs
      have e1 : o = r := by omega
      subst e1
      rw [hs] at h
      exact b123_3 (pk_le o o (fun _ => b123_51 (And.intro rfl h)) (fun z => absurd z (by omega)) rfl rfl (by omega) (by omega))
    | succ j ih =>
      intro o ho hs
      have es : sNwk rl ft r e i (o + 1) = !(ft o && decide (sPd rl o e i 50 = sPd rl r e i 50)) := by rw [sNwk, hs, Bool.true_and]
      have next : sNwk rl ft r e i (o + 1) = true → zQ G 123 (n + 1) post 45 [some (.ref 0), some (.int (nI bits)), some (.int (nI r)), some (.int (nI e)), some (.int (nI i)), some (.int (nI o))] [] I L (zR1 q) := by
        intro z
        have qq := ih (o + 1) (by omega) z
        rw [← nI_1] at qq
        exact b123_45 qq
      have e1 : nI bits >>> (nI o &&& 31) &&& 1 = nI (bits / 2 ^ o % 2) := by rw [zshr (by omega) (by omega), pk_andN (by have := Nat.div_le_self bits (2 ^ o); omega) 1 rfl]
      have hm2 : bits / 2 ^ o % 2 < 2 := Nat.mod_lt _ (by decide)
      have hbo := hbit o (by omega)
      refine b123_3 (pk_le r o (fun z => absurd z (by omega)) (fun _ => ?_) rfl rfl (by omega) (by omega))
      refine pk_ne (bits / 2 ^ o % 2) 1 (fun z => next ?_) (fun z => ?_) e1 rfl (by omega) (by omega)
      · cases c2 : ft o with
        | false => rw [es, c2]; rfl
        | true => rw [c2, if_pos rfl] at hbo; exact absurd hbo z
      · have hft : ft o = true := by
          cases c2 : ft o with
          | true => rfl
          | false => rw [c2, if_neg Bool.false_ne_true] at hbo; omega
        have l1 := sPd_lt (r := o) (e := e) (i := i) (b := 50) hrl (by omega) he hi (by omega)
        have l2 := sPd_lt (r := r) (e := e) (i := i) (b := 50) hrl hr he hi (by omega)
        show zC G (n + 1) 119 [.ref 0, .int (nI o), .int (nI e), .int (nI i), .int (nI 50)] I L (zR1 q) _
        refine c_paid hrl (by omega) he hi (by omega) ?_
        show zC G (n + 1) 119 [.ref 0, .int (nI r), .int (nI e), .int (nI i), .int (nI 50)] I L (zR1 q) _
        refine c_paid hrl hr he hi (by omega) ?_
        refine pk_ne (sPd rl o e i 50) (sPd rl r e i 50) (fun z2 => next ?_) (fun z2 => And.intro rfl ?_) rfl rfl (by omega) (by omega)
        · rw [es, hft, decide_eq_false z2]
          rfl
        · have e2 := no (o + 1) j (by rw [es, hft, decide_eq_true z2]; rfl)
          rw [show o + 1 + j = r by omega] at e2
          rw [e2] at h
          exact h
  exact zin0 rfl rfl rfl (b123_0 (key r 0 (by omega) rfl))
theorem c_part (hrl : mRl nr rl ru I) (hwa : mWa wa I) (h0 : sFB (sFt rl wa) nr = 0 → post (some (.int 0)) (zup I 0 34 0) L (zR1 q)) (h1 : sFB (sFt rl wa) nr ≠ 0 → ∀ (I' : zI) (L' : zL), mRow [(nI ((sPt rl (sFt rl wa) nr 30).2 / 10)).toInt64, (nI ((sPt rl (sFt rl wa) nr 30).2 % 10)).toInt64] I' L' → I' 0 34 = 0 → zFr tT I I' → (∀ o, o ≠ 17 → L' o = L o) → post (some (.int (nI (sPt rl (sFt rl wa) nr 30).1))) I' L' (zR1 q)) : zC G (n + 4) 122 [.ref 0] I L (zR1 q) post := by
  have h8 := hrl.1
  have e34 : zup (zup I 0 34 0) 0 34 0 = zup I 0 34 0 := zup_zup _ _ _ _ _
  have hrl' := mRl_34 (v := 0) hrl
  have hwa' := mWa_34 (v := 0) hwa
  have h18 : zup I 0 34 0 0 18 = nI nr := hrl.2.1
  have hbl := sFB_lt (sFt rl wa) nr
  have hp8 : 2 ^ nr ≤ 256 := Nat.pow_le_pow_right (n := 2) (by decide) h8
  have hbit := sFB_bit (sFt rl wa) nr
  refine zin0 rfl rfl rfl (b122_0 (c_fits hrl' hwa' ?_))
  rw [e34]
  generalize sFB (sFt rl wa) nr = bits at *
  generalize sFt rl wa = ft at *
  refine pk_ne bits 0 (fun z => b122_16 ?_) (fun z => h0 z) rfl rfl (by omega) (by omega)
  have h1 := h1 z
  have kk : ∀ j k : Nat, k + j = 30 → zQ G 122 (n + 3) post 23 [some (.ref 0), some (.int (nI bits)), some (.int (nI (sPt rl ft nr k).1)), some (.int (nI (sPt rl ft nr k).2)), some (.int (nI k)), none, none] [] (zup I 0 34 0) L (zR1 q) := by
    intro j
    induction j with
    | zero =>
      intro k hk
      have e : k = 30 := by omega
      subst e
      have hl2 := (sPt_le rl ft nr 30).2
      refine b122_23 (pk_le 30 30 (fun _ => b122_112 ?_) (fun z => absurd z (by omega)) rfl rfl (by omega) (by omega))
      have e1 : nI (sPt rl ft nr 30).2 / 10 = nI ((sPt rl ft nr 30).2 / 10) := pk_div (d := 10) (by omega) (by decide) (by decide)
      have e2 : nI (sPt rl ft nr 30).2 - nI (sPt rl ft nr 30).2 / 10 * 10 = nI ((sPt rl ft nr 30).2 % 10) := pk_rem (d := 10) (by omega) (by decide) (by decide)
      refine And.intro (by decide) ?_
      show zC G (n + 3) 4 [.ref 0, .long (nI (sPt rl ft nr 30).2 / 10).toInt64] (zup (zup I 0 34 0) 0 33 0) L (zR1 q) _
      rw [e1]
      refine c_tell (l := []) (mRow_0 zup_self) (by show 0 < 32; omega) fun I1 L1 hr1 hf1 hl1 => And.intro (by decide) ?_
      show zC G (n + 3) 4 [.ref 0, .long (nI (sPt rl ft nr 30).2 - nI (sPt rl ft nr 30).2 / 10 * 10).toInt64] I1 L1 (zR1 q) _
      rw [e2]
      refine c_tell hr1 (by show 1 < 32; omega) fun I2 L2 hr2 hf2 hl2 => ?_
      refine h1 I2 L2 hr2 ?_ ?_ fun o ho => (hl2 o ho).trans (hl1 o ho)
      · rw [hf2 0 34 (by omega), hf1 0 34 (by omega)]
        rfl
      · exact zFr_tr (zFr_up (zFr_up (zFr_0 _ _) rfl) rfl) (zFr_tr (zFr_tell hf1) (zFr_tell hf2))
    | succ j ih =>
      intro k hk
      have hpk := sPt_le rl ft nr k
      have qq := ih (k + 1) (by omega)
      rw [← nI_1, sPt] at qq
      have hpn : sPn rl ft nr k ≤ nr := sCB_le _ _
      have e1 : nI k / 10 = nI (k / 10) := pk_div (d := 10) (by omega) (by decide) (by decide)
      have e2 : nI k - nI k / 10 * 10 = nI (k % 10) := pk_rem (d := 10) (by omega) (by decide) (by decide)
      have inner : ∀ j i : Nat, i + j = nr → zQ G 122 (n + 3) post 36 [some (.ref 0), some (.int (nI bits)), some (.int (nI (sPt rl ft nr k).1)), some (.int (nI (sPt rl ft nr k).2)), some (.int (nI k)), some (.int (nI (sCB (fun r => ft r && sNwk rl ft r (k / 10) (k % 10) r) i))), some (.int (nI i))] [] (zup I 0 34 0) L (zR1 q) := by
        intro j
        induction j with
        | zero =>
          intro i hi
          have e : i = nr := by omega
          subst e
          refine b122_36 (pk_le i i (fun _ => b122_91 ?_) (fun z => absurd z (by omega)) h18 rfl (by omega) (by omega))
          refine pk_lt (sPt rl ft i k).1 (sPn rl ft i k) (fun z2 => b122_100 ?_) (fun z2 => b122_106 ?_) rfl rfl (by omega) (by omega)
          · rw [if_pos z2] at qq
            exact b122_106 (zP_lv (by exact ⟨rfl, rfl, rfl, rfl, rfl, trivial⟩) qq)
          · rw [if_neg (by omega)] at qq
            exact zP_lv (by exact ⟨rfl, rfl, rfl, rfl, rfl, trivial⟩) qq
        | succ j ihi =>
          intro i hi
          have q2 := ihi (i + 1) (by omega)
          rw [← nI_1, sCB] at q2
          have b1 : nI bits >>> (nI i &&& 31) &&& 1 = nI (bits / 2 ^ i % 2) := by rw [zshr (by omega) (by omega), pk_andN (by have := Nat.div_le_self bits (2 ^ i); omega) 1 rfl]
          have hm2 : bits / 2 ^ i % 2 < 2 := Nat.mod_lt _ (by decide)
          have hbo := hbit i (by omega)
          have p82 : ∀ (x : Int32) (y : Nat), x = nI y → y = (if (ft i && sNwk rl ft i (k / 10) (k % 10) i) = true then 1 else 0) → zQ G 122 (n + 3) post 82 [some (.ref 0), some (.int (nI bits)), some (.int (nI (sPt rl ft nr k).1)), some (.int (nI (sPt rl ft nr k).2)), some (.int (nI k)), some (.int (nI (sCB (fun r => ft r && sNwk rl ft r (k / 10) (k % 10) r) i))), some (.int (nI i))] [.int x, .int (nI (sCB (fun r => ft r && sNwk rl ft r (k / 10) (k % 10) r) i))] (zup I 0 34 0) L (zR1 q) := by
            intro x y hx hy
            subst hx
            rw [← hy, ← nI_add] at q2
            exact b122_82 q2
          refine b122_36 (pk_le nr i (fun z => absurd z (by omega)) (fun _ => ?_) h18 rfl (by omega) (by omega))
          refine pk_ne (bits / 2 ^ i % 2) 1 (fun z2 => b122_81 (p82 0 0 rfl ?_)) (fun z2 => ?_) b1 rfl (by omega) (by omega)
          · cases c2 : ft i with
            | false => rfl
            | true => rw [c2, if_pos rfl] at hbo; exact absurd hbo z2
          · have hft : ft i = true := by
              cases c2 : ft i with
              | true => rfl
              | false => rw [c2, if_neg Bool.false_ne_true] at hbo; omega
            refine And.intro (by decide) (And.intro (by decide) ?_)
            show zC G (n + 3) 123 [.ref 0, .int (nI bits), .int (nI i), .int (nI k / 10), .int (nI k - nI k / 10 * 10)] (zup I 0 34 0) L (zR1 q) _
            rw [e2, e1]
            refine c_isNew hrl' (by omega) (by omega) (by omega) (by omega) hbit (zbo_eq (fun z3 => b122_81 (p82 0 0 rfl ?_)) (fun z3 => p82 1 1 rfl ?_))
            · rw [z3, Bool.and_false, if_neg Bool.false_ne_true]
            · rw [z3, hft]
              rfl
      refine b122_23 (pk_le 30 k (fun z => absurd z (by omega)) (fun _ => ?_) rfl rfl (by omega) (by omega))
      exact inner nr 0 (by omega)
  exact kk 30 0 (by omega)
theorem c_row {l : List Int64} {x : Int32} (hr : mRow l I L) (hl : l.length ≤ 32) (h1 : ∀ i v, x = nI i → l[i]? = some v → post (some (.long v)) (zup I 0 34 0) L (zR1 q)) (h0 : xOut x l.length → post (some (.long 0)) (zup I 0 34 1) L (zR1 q)) : zC G (n + 2) 124 [.ref 0, .int x] I L (zR1 q) post := by
  have e33 : zup I 0 34 0 0 33 = nI l.length := hr.1
  refine zin0 rfl rfl rfl (b124_0 ?_)
  show zC G (n + 1) 2 [.int x, .int 0, .int (zup I 0 34 0 0 33 - 1)] (zup I 0 34 0) L (zR1 q) _
  rw [e33]
  rcases pk_ix x (n := l.length) (by omega) with c1 | c1 | ⟨i, hi, rfl⟩
  · refine c_in ?_
    rw [in_out (by omega) (Or.inl c1)]
    refine And.intro (fun _ => b124_28 (zin0 rfl rfl rfl (b3_0 (b124_33 ?_)))) (fun z => absurd rfl z)
    have qq := h0 (Or.inl c1)
    rw [← zup_zup I 0 34 0 1] at qq
    exact qq
  · refine c_in ?_
    rw [in_out (by omega) (Or.inr c1)]
    refine And.intro (fun _ => b124_28 (zin0 rfl rfl rfl (b3_0 (b124_33 ?_)))) (fun z => absurd rfl z)
    have qq := h0 (Or.inr c1)
    rw [← zup_zup I 0 34 0 1] at qq
    exact qq
  · refine c_inN (x := i) (lo := 0) (hi := l.length - 1) rfl rfl (pk_sub (b := 1) (by omega)) (by omega) (by omega) (by omega) ?_
    rw [decide_eq_true (by omega)]
    refine And.intro (fun z => absurd z (by decide)) (fun _ => And.intro (vp_in_nI (by omega) (by decide)) (b124_33 ?_))
    obtain ⟨v, hv⟩ : ∃ v, l[i]? = some v := ⟨l[i], List.getElem?_eq_getElem hi⟩
    have qq := h1 i v rfl hv
    have e : L 17 (nI i).toNatClampNeg = v := by rw [nI_clamp (by omega)]; exact hr.2 i v hv
    rw [← e] at qq
    exact qq
end
