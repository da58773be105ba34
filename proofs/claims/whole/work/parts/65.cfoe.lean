-- ===== the class: foes told =====
def pFr (t : Nat → Nat → Prop) (I I' : zI) : Prop := ∀ o k, ¬ t o k → I' o k = I o k
theorem pFr_0 (t : Nat → Nat → Prop) (I : zI) : pFr t I I := fun _ _ _ => rfl
theorem pFr_tr {t : Nat → Nat → Prop} {I I' I'' : zI} (h : pFr t I I') (h2 : pFr t I' I'') : pFr t I I'' := fun o k z => (h2 o k z).trans (h o k z)
theorem pFr_up {t : Nat → Nat → Prop} {I I' : zI} {o k : Nat} {v : Int32} (h : pFr t I I') (ht : t o k) : pFr t I (zup I' o k v) := fun o' k' z => by
  by_cases d : o' = o
  · subst d
    rw [zup_k (fun w => z (by rw [w]; exact ht))]
    exact h _ _ z
  · rw [zup_ne d]
    exact h _ _ z
theorem pFr_le {t u : Nat → Nat → Prop} {I I' : zI} (h : pFr t I I') (hu : ∀ o k, t o k → u o k) : pFr u I I' := fun o k z => h o k fun w => z (hu o k w)
def kFb (O A B C D : Nat) : Prop := (O = 131 ∧ A = 132 ∧ B = 133 ∧ C = 134 ∧ D = 135) ∨ (O = 136 ∧ A = 137 ∧ B = 138 ∧ C = 139 ∧ D = 140) ∨ (O = 141 ∧ A = 142 ∧ B = 143 ∧ C = 144 ∧ D = 145) ∨ (O = 146 ∧ A = 147 ∧ B = 148 ∧ C = 149 ∧ D = 150) ∨ (O = 151 ∧ A = 152 ∧ B = 153 ∧ C = 154 ∧ D = 155) ∨ (O = 156 ∧ A = 157 ∧ B = 158 ∧ C = 159 ∧ D = 160) ∨ (O = 161 ∧ A = 162 ∧ B = 163 ∧ C = 164 ∧ D = 165) ∨ (O = 166 ∧ A = 167 ∧ B = 168 ∧ C = 169 ∧ D = 170)
theorem kFb_f : ∀ {f : Nat}, f < 8 → kFb (131 + 5 * f) (132 + 5 * f) (133 + 5 * f) (134 + 5 * f) (135 + 5 * f)
  | 0, _ => .inl ⟨rfl, rfl, rfl, rfl, rfl⟩
  | 1, _ => .inr (.inl ⟨rfl, rfl, rfl, rfl, rfl⟩)
  | 2, _ => .inr (.inr (.inl ⟨rfl, rfl, rfl, rfl, rfl⟩))
  | 3, _ => .inr (.inr (.inr (.inl ⟨rfl, rfl, rfl, rfl, rfl⟩)))
  | 4, _ => .inr (.inr (.inr (.inr (.inl ⟨rfl, rfl, rfl, rfl, rfl⟩))))
  | 5, _ => .inr (.inr (.inr (.inr (.inr (.inl ⟨rfl, rfl, rfl, rfl, rfl⟩)))))
  | 6, _ => .inr (.inr (.inr (.inr (.inr (.inr (.inl ⟨rfl, rfl, rfl, rfl, rfl⟩))))))
  | 7, _ => .inr (.inr (.inr (.inr (.inr (.inr (.inr (⟨rfl, rfl, rfl, rfl, rfl⟩)))))))
  | f + 8, h => absurd h (by omega)
theorem zR_foe : ∀ f, f < 8 → zR0 71 f = some (131 + 5 * f) := by decide +kernel
/-- a foe's object holds the foe -/
def kFo (O A B C D : Nat) (F : zfo) (I : zI) : Prop := I O 5 = nI F.1 ∧ I O 4 = nI (sSum F.2.2.1 F.1) ∧ ∀ k, k < F.1 → I A k = nI (F.2.1 k) ∧ I D k = nI (F.2.2.1 k) ∧ (F.2.1 k = 114 → I C k = nI (F.2.2.2.2 k) ∧ ∀ i, i < F.2.2.2.2 k → I B (9 * k + i) = nI (F.2.2.2.1 k i))
/-- a part that is told -/
def kPt (A B C D j : Nat) (pt : zpt) (I : zI) : Prop := I A j = nI pt.1 ∧ I D j = nI pt.2.1 ∧ (pt.1 = 114 → I C j = nI pt.2.2.length ∧ ∀ i d, pt.2.2[i]? = some d → I B (9 * j + i) = nI d)
/-- what the reading of a part's wishes touches; of a part; of a foe -/
def pWi (B C i o k : Nat) : Prop := (o = 41 ∧ k = 2) ∨ (o = C ∧ k = i) ∨ (o = B ∧ 9 * i ≤ k ∧ k < 9 * i + 9)
def pPa (A B C i o k : Nat) : Prop := (o = 41 ∧ k = 2) ∨ (o = A ∧ k = i) ∨ (o = C ∧ k = i) ∨ (o = B ∧ 9 * i ≤ k ∧ k < 9 * i + 9)
def pFe (O A B C D o k : Nat) : Prop := (o = 41 ∧ k = 2) ∨ o = O ∨ o = A ∨ o = B ∨ o = C ∨ o = D
theorem sPc_511 : ∀ s, s < 512 → sPc s = 9 → s = 511 := by decide +kernel
theorem s511 : ∀ d, d < 9 → 511 / 2 ^ d % 2 = 1 := by decide +kernel
section
variable {G : zG} {n : Nat} {I : zI} {L : zL} {q : zq} {post : zPo} {tx : Nat → Nat} {tn a : Nat} {O A B C D : Nat}
theorem k_wishes {i : Nat} (hO : kFb O A B C D) (hi : i < 14) (ht : kTx tx tn a I) (h1 : (tWi tx tn 41 0 [] a).1 ≠ [] → tH tx tn (tWi tx tn 41 0 [] a).2 = some 58 → (tWi tx tn 41 0 [] a).1.length ≤ 9 → (∀ d, d ∈ (tWi tx tn 41 0 [] a).1 → d ≤ 8) → a ≤ (tWi tx tn 41 0 [] a).2 → (tWi tx tn 41 0 [] a).2 < 40 → ∀ I' : zI, I' C i = nI (tWi tx tn 41 0 [] a).1.length → (∀ j d, (tWi tx tn 41 0 [] a).1[j]? = some d → I' B (9 * i + j) = nI d) → kTx tx tn ((tWi tx tn 41 0 [] a).2 + 1) I' → pFr (pWi B C i) I I' → post (some (.int 1)) I' L (zR1 q)) (h0 : ((tWi tx tn 41 0 [] a).1 = [] ∨ tH tx tn (tWi tx tn 41 0 [] a).2 ≠ some 58) → ∀ I' : zI, kTx tx tn (tWi tx tn 41 0 [] a).2 I' → pFr (pWi B C i) I I' → post (some (.int 0)) I' L (zR1 q)) : zC G (n + 3) 160 [.ref O, .ref 41, .int (nI i)] I L (zR1 q) post := by
  rcases hO with ⟨o1, o2, o3, o4, o5⟩ | ⟨o1, o2, o3, o4, o5⟩ | ⟨o1, o2, o3, o4, o5⟩ | ⟨o1, o2, o3, o4, o5⟩ | ⟨o1, o2, o3, o4, o5⟩ | ⟨o1, o2, o3, o4, o5⟩ | ⟨o1, o2, o3, o4, o5⟩ | ⟨o1, o2, o3, o4, o5⟩ <;> (
    -- behind the digits
    have tail : ∀ (l : List Nat) (p : Nat) (x y : Int32) (lv : zLv) (J : zI), lv = [some (.ref O), some (.ref 41), some (.int (nI i))] → tWi tx tn 41 0 [] a = (l, p) → l.length ≤ 9 → (∀ d, d ∈ l → d ≤ 8) → a ≤ p → kTx tx tn p J → J C i = nI l.length → (∀ j d, l[j]? = some d → J B (9 * i + j) = nI d) → pFr (pWi B C i) I J → zQ G 160 (n + 2) post 93 lv [] J L (zR1 q) := by
      intro l p x y lv J hlv hT hl9 hd8 hp hJ hC hB hf
      rw [hT] at h1 h0
      dsimp only at h1 h0
      subst hlv
      subst o1 o2 o3 o4 o5
      refine b160_93 (And.intro (vp_in_nI hi (by decide)) ?_)
      rw [nI_clamp (by omega), hC]
      refine pk_le l.length 0 (fun c => b160_115 (b160_116 (And.intro rfl ?_))) (fun c => ?_) rfl rfl (by omega) (by omega)
      · exact h0 (.inl (List.eq_nil_of_length_eq_zero (by omega))) J hJ hf
      · refine k_takes (c := 58) rfl (by decide) hJ (fun e hp40 tA => And.intro (fun z => absurd z (by decide)) (fun _ => b160_116 (And.intro rfl ?_))) (fun e => And.intro (fun _ => b160_115 (b160_116 (And.intro rfl ?_))) (fun z => absurd rfl z))
        · exact h1 (fun z => by rw [z] at c; exact absurd c (by decide)) e hl9 hd8 hp hp40 _ (by rw [zup_ne (by decide)]; exact hC) (fun j d hj => by rw [zup_ne (by decide)]; exact hB j d hj) tA (pFr_up hf (.inl ⟨rfl, rfl⟩))
        · exact h0 (.inr e) J hJ hf
    have key : ∀ (j m sn p : Nat) (l : List Nat) (x : Option Value) (J : zI), m + j = 9 → l.length = m → sPc sn = m → sn < 512 → tWi tx tn 41 0 [] a = tWi tx tn (32 + j) sn l p → (∀ d, d ∈ l → d ≤ 8) → a ≤ p → kTx tx tn p J → J C i = nI l.length → (∀ j d, l[j]? = some d → J B (9 * i + j) = nI d) → pFr (pWi B C i) I J → zQ G 160 (n + 2) post 12 [some (.ref O), some (.ref 41), some (.int (nI i)), some (.int (nI sn)), some (.int (nI m)), x] [] J L (zR1 q) := by
      intro j
      induction j with
      | zero =>
        intro m sn p l x J hm hl hs hs5 hT hd8 hp hJ hC hB hf
        have e511 : sn = 511 := sPc_511 sn hs5 (by omega)
        refine b160_12 (pk_le 9 m (fun _ => zP_lv (lv' := [some (.ref O), some (.ref 41), some (.int (nI i))]) (by exact ⟨rfl, rfl, rfl, trivial⟩) ?_) (fun z => absurd z (by omega)) rfl rfl (by omega) (by omega))
        refine tail l p 0 0 _ J rfl (hT.trans ?_) (by omega) hd8 hp hJ hC hB hf
        show tWi tx tn (31 + 1) sn l p = (l, p)
        rw [tWi, e511]
        cases e : tH tx tn p with
        | none => rfl
        | some b =>
          show (if (48 ≤ b ∧ b ≤ 56) ∧ 511 / 2 ^ (b - 48) % 2 = 0 then _ else _) = _
          refine if_neg fun z => ?_
          have := s511 (b - 48) (by omega)
          omega
      | succ j ih =>
        intro m sn p l x J hm hl hs hs5 hT hd8 hp hJ hC hB hf
        have hT2 : tWi tx tn 41 0 [] a = match tH tx tn p with
          | some b => if (48 ≤ b ∧ b ≤ 56) ∧ sn / 2 ^ (b - 48) % 2 = 0 then tWi tx tn (32 + j) (sn + 2 ^ (b - 48)) (l ++ [b - 48]) (p + 1) else (l, p)
          | none => (l, p) := hT
        have ihq := fun b w1 w2 w3 w4 w5 w6 w7 w8 w9 w10 => ih (m + 1) (sn + 2 ^ (b - 48)) (p + 1) (l ++ [b - 48]) (some (.int (nI (b - 48)))) (zup (zup (zup J 41 2 (nI (p + 1))) B (9 * i + m) (nI (b - 48))) C i (nI (m + 1))) (by omega) w1 w2 w3 w4 w5 w6 w7 w8 w9 w10
        have tl := fun e => tail l p 0 0 _ J rfl (hT2.trans e) (by omega) hd8 hp hJ hC hB hf
        subst o1 o2 o3 o4 o5
        refine b160_12 (pk_le 9 m (fun z => absurd z (by omega)) (fun _ => k_digit (lo := 0) (hi := 8) rfl rfl (by omega) (by omega) hJ (fun d hd hd0 hd8' hp40 hptn tA => ?_) (fun hd => ?_)) rfl rfl (by omega) (by omega))
        · have hb : ∃ b, tH tx tn p = some b ∧ d = b - 48 ∧ 48 ≤ b ∧ b ≤ 56 := by
            unfold tDig at hd
            cases e : tH tx tn p with
            | none =>
              rw [e] at hd
              injection hd with z
              cases z
            | some b =>
              rw [e] at hd
              dsimp only at hd
              split at hd
              · injection hd with z
                injection z with z
                exact ⟨b, rfl, by omega, by omega, by omega⟩
              · injection hd with z
                cases z
          obtain ⟨b, eb, ed, b1, b2⟩ := hb
          rw [eb] at hT2
          have hT2 : tWi tx tn 41 0 [] a = if (48 ≤ b ∧ b ≤ 56) ∧ sn / 2 ^ (b - 48) % 2 = 0 then tWi tx tn (32 + j) (sn + 2 ^ (b - 48)) (l ++ [b - 48]) (p + 1) else (l, p) := hT2
          rw [← ed] at hT2
          have tb : sn.testBit d = decide (sn / 2 ^ d % 2 = 1) := Nat.testBit_eq_decide_div_mod_eq
          refine And.intro (fun z => absurd z (nI_pos (by omega))) (fun _ => k_holds rfl (by omega) rfl (by omega) ?_)
          rw [tb]
          generalize hw : sn / 2 ^ d = w at hT2
          refine zbo_eq (fun c => b160_48 ?_) (fun c => ?_)
          · have c0 : w % 2 = 0 := by
              have := of_decide_eq_false c
              omega
            rw [if_pos ⟨⟨b1, b2⟩, c0⟩] at hT2
            obtain ⟨q1, q2, q3⟩ := sPc_add d (by omega) sn hs5 (by rw [hw]; exact c0)
            refine And.intro (fun _ => b160_56 ?_) (fun z => absurd (nI_pos' (by omega)) z)
            have ei : nI i * 9 + nI m = nI (9 * i + m) := by rw [show (9 : Int32) = nI 9 from rfl, pk_mul, nI_add, Nat.mul_comm]
            refine And.intro ?_ (And.intro (vp_in_nI hi (by decide)) ?_)
            · rw [ei]
              exact vp_in_nI (by omega) (by decide)
            · rw [ei, nI_clamp (by omega), nI_clamp (by omega), q3, nI_1]
              have hlen : (l ++ [d]).length = m + 1 := by rw [snoc_len, hl]
              have qq := ihq b
              rw [← ed] at qq
              refine zP_lv (by exact ⟨rfl, rfl, rfl, rfl, congrArg Value.int (nI_1 m).symm, rfl, trivial⟩) (qq hlen (by rw [q1, hs]) q2 hT2 (fun x hx => ?_) (by omega) ?_ ?_ (fun j' d' hj' => ?_) ?_)
              · rcases List.mem_append.mp hx with h | h
                · exact hd8 x h
                · rw [List.mem_singleton.mp h]
                  exact hd8'
              · exact kTx_of tA ((zup_ne (by decide)).trans (zup_ne (by decide))) ((zup_ne (by decide)).trans (zup_ne (by decide)))
              · rw [zup_self, hlen]
              · rw [zup_ne (by decide), zup_eq]
                rcases snoc_get hj' with ⟨e1, e2⟩ | ⟨e1, e2⟩
                · rw [if_pos (by omega), e2]
                · rw [if_neg (by omega), zup_ne (by decide)]
                  exact hB j' d' e2
              · refine pFr_up (pFr_up (pFr_up hf (.inl ⟨rfl, rfl⟩)) (.inr (.inr ⟨rfl, by omega, by omega⟩))) (.inr (.inl ⟨rfl, rfl⟩))
          · have c0 : w % 2 = 1 := of_decide_eq_true c
            rw [if_neg (fun z => by omega)] at hT2
            refine k_stepBack tA (fun tB => And.intro rfl ?_)
            rw [hT2] at h0
            refine h0 (.inr (fun z => ?_)) _ tB (pFr_up (pFr_up hf (.inl ⟨rfl, rfl⟩)) (.inl ⟨rfl, rfl⟩))
            rw [eb] at z
            injection z with z
            omega
        · refine And.intro (fun _ => b160_48 (And.intro (fun z => absurd z (by decide)) (fun _ => zP_lv (by exact ⟨rfl, rfl, rfl, trivial⟩) (tl ?_)))) (fun z => absurd (by decide) z)
          unfold tDig at hd
          cases e : tH tx tn p with
          | none => rfl
          | some b =>
            rw [e] at hd
            dsimp only at hd
            split at hd
            · injection hd with z
              cases z
            · exact if_neg (fun z => by omega)
    have qq := key 9 0 0 a [] none (zup I C i 0) (by omega) rfl (by decide) (by decide) rfl (fun d hd => by cases hd) (Nat.le_refl _)
    subst o1 o2 o3 o4 o5
    refine zin0 rfl rfl rfl (b160_0 (And.intro (vp_in_nI hi (by decide)) ?_))
    rw [nI_clamp (by omega)]
    exact qq (kTx_of ht (zup_ne (by decide)) (zup_ne (by decide))) zup_self (fun j d hj => by cases hj) (pFr_up (pFr_0 _ _) (.inr (.inl ⟨rfl, rfl⟩))))
theorem k_letter {i : Nat} (hO : kFb O A B C D) (hi : i < 14) (ht : kTx tx tn a I) (h1 : ∀ c l p, tPart tx tn a = tPtB tx tn c l p → (c = 102 ∨ c = 109 ∨ c = 116 ∨ c = 114) → l.length ≤ 9 → (∀ d, d ∈ l → d ≤ 8) → a < p → p ≤ 40 → ∀ I' : zI, I' A i = nI c → (c = 114 → I' C i = nI l.length ∧ ∀ j d, l[j]? = some d → I' B (9 * i + j) = nI d) → kTx tx tn p I' → pFr (pPa A B C i) I I' → post (some (.int 1)) I' L (zR1 q)) (h0 : ∀ e, tPart tx tn a = (none, e) → ∀ I' : zI, kTx tx tn e I' → pFr (pPa A B C i) I I' → post (some (.int 0)) I' L (zR1 q)) : zC G (n + 4) 159 [.ref O, .ref 41, .int (nI i)] I L (zR1 q) post := by
  have hO' := hO
  rcases hO with ⟨o1, o2, o3, o4, o5⟩ | ⟨o1, o2, o3, o4, o5⟩ | ⟨o1, o2, o3, o4, o5⟩ | ⟨o1, o2, o3, o4, o5⟩ | ⟨o1, o2, o3, o4, o5⟩ | ⟨o1, o2, o3, o4, o5⟩ | ⟨o1, o2, o3, o4, o5⟩ | ⟨o1, o2, o3, o4, o5⟩ <;> (
    have oth : ∀ (c : Nat), c ≠ 114 → (c = 102 ∨ c = 109 ∨ c = 116) → tLet tx tn a = some c → tPart tx tn a = tPtB tx tn c [] (a + 1) := by
      intro c hc hcc hL
      unfold tPart
      rw [hL]
      exact if_neg hc
    have done : ∀ (c : Nat) (J : zI), (c = 102 ∨ c = 109 ∨ c = 116) → tLet tx tn a = some c → a < 40 → kTx tx tn (a + 1) J → J A i = nI c → pFr (pPa A B C i) I J → zQ G 159 (n + 3) post 88 [some (.ref O), some (.ref 41), some (.int (nI i))] [] J L (zR1 q) := by
      intro c J hc hL ha hJ hA hf
      have hP := oth c (by omega) hc hL
      subst o1 o2 o3 o4 o5
      refine b159_88 (And.intro (vp_in_nI hi (by decide)) ?_)
      rw [nI_clamp (by omega), hA]
      refine pk_eq c 0 (fun z => by omega) (fun _ => b159_102 (And.intro rfl ?_)) rfl rfl (by omega) (by omega)
      exact h1 c [] (a + 1) hP (by omega) (Nat.zero_le _) (fun d hd => by cases hd) (by omega) (by omega) J hA (fun z => by omega) hJ hf
    have t0 : kTx tx tn a (zup I A i 0) := by
      subst o1 o2 o3 o4 o5
      exact kTx_of ht (zup_ne (by decide)) (zup_ne (by decide))
    have f0 : pFr (pPa A B C i) I (zup I A i 0) := pFr_up (pFr_0 _ _) (.inr (.inl ⟨rfl, rfl⟩))
    have up : ∀ (J J' : zI), pFr (pPa A B C i) I J → pFr (pWi B C i) J J' → pFr (pPa A B C i) I J' := fun J J' x y => pFr_tr x (pFr_le y (fun o k z => z.elim .inl fun w => .inr (.inr w)))
    subst o1 o2 o3 o4 o5
    refine zin0 rfl rfl rfl (b159_0 (And.intro (vp_in_nI hi (by decide)) ?_))
    rw [nI_clamp (by omega)]
    refine k_takes (c := 114) rfl (by decide) t0 (fun e _ tA => And.intro (fun z => absurd z (by decide)) (fun _ => And.intro (vp_in_nI hi (by decide)) ?_)) (fun e => And.intro (fun _ => b159_31 ?_) (fun z => absurd rfl z))
    · rw [nI_clamp (by omega)]
      have eL : tLet tx tn a = some 114 := by
        unfold tLet
        rw [e]
        rfl
      have eP : tPart tx tn a = (if (tWi tx tn 41 0 [] (a + 1)).1 = [] then (none, (tWi tx tn 41 0 [] (a + 1)).2) else zbd (tNeed tx tn 58 (tWi tx tn 41 0 [] (a + 1)).2) fun _ p => tPtB tx tn 114 (tWi tx tn 41 0 [] (a + 1)).1 p) := by
        unfold tPart
        rw [eL]
        exact if_pos rfl
      refine k_wishes hO' hi (kTx_of tA (zup_ne (by decide)) (zup_ne (by decide))) (fun w1 w2 w3 w4 w5 w6 I' w7 w8 w9 w10 => And.intro rfl ?_) (fun w1 I' w9 w10 => And.intro rfl ?_)
      · refine h1 114 _ _ (eP.trans ?_) (by omega) w3 w4 (by omega) (by omega) I' ?_ (fun _ => ⟨w7, w8⟩) w9 (up _ _ (pFr_up (pFr_up f0 (.inl ⟨rfl, rfl⟩)) (.inr (.inl ⟨rfl, rfl⟩))) w10)
        · rw [if_neg w1, tNeed_t w2]
          rfl
        · rw [w10 _ _ (by unfold pWi; omega), zup_self]
          rfl
      · refine h0 _ (eP.trans ?_) I' w9 (up _ _ (pFr_up (pFr_up f0 (.inl ⟨rfl, rfl⟩)) (.inr (.inl ⟨rfl, rfl⟩))) w10)
        by_cases z : (tWi tx tn 41 0 [] (a + 1)).1 = []
        · rw [if_pos z]
        · rw [if_neg z, tNeed_f (w1.resolve_left z)]
          rfl
    · have eL : ∀ c, tH tx tn a = some c → (c = 102 ∨ c = 109 ∨ c = 116) → tLet tx tn a = some c := by
        intro c hc hcc
        unfold tLet
        rw [hc]
        rcases hcc with rfl | rfl | rfl <;> rfl
      refine k_takes (c := 102) rfl (by decide) t0 (fun e2 ha tA => And.intro (fun z => absurd z (by decide)) (fun _ => And.intro (vp_in_nI hi (by decide)) ?_)) (fun e2 => And.intro (fun _ => b159_51 ?_) (fun z => absurd rfl z))
      · rw [nI_clamp (by omega)]
        exact done 102 _ (.inl rfl) (eL _ e2 (.inl rfl)) ha (kTx_of tA (zup_ne (by decide)) (zup_ne (by decide))) zup_self (pFr_up (pFr_up f0 (.inl ⟨rfl, rfl⟩)) (.inr (.inl ⟨rfl, rfl⟩)))
      · refine k_takes (c := 109) rfl (by decide) t0 (fun e3 ha tA => And.intro (fun z => absurd z (by decide)) (fun _ => And.intro (vp_in_nI hi (by decide)) ?_)) (fun e3 => And.intro (fun _ => b159_71 ?_) (fun z => absurd rfl z))
        · rw [nI_clamp (by omega)]
          exact done 109 _ (.inr (.inl rfl)) (eL _ e3 (.inr (.inl rfl))) ha (kTx_of tA (zup_ne (by decide)) (zup_ne (by decide))) zup_self (pFr_up (pFr_up f0 (.inl ⟨rfl, rfl⟩)) (.inr (.inl ⟨rfl, rfl⟩)))
        · refine k_takes (c := 116) rfl (by decide) t0 (fun e4 ha tA => And.intro (fun z => absurd z (by decide)) (fun _ => And.intro (vp_in_nI hi (by decide)) ?_)) (fun e4 => And.intro (fun _ => b159_88 (And.intro (vp_in_nI hi (by decide)) ?_)) (fun z => absurd rfl z))
          · rw [nI_clamp (by omega)]
            exact done 116 _ (.inr (.inr rfl)) (eL _ e4 (.inr (.inr rfl))) ha (kTx_of tA (zup_ne (by decide)) (zup_ne (by decide))) zup_self (pFr_up (pFr_up f0 (.inl ⟨rfl, rfl⟩)) (.inr (.inl ⟨rfl, rfl⟩)))
          · rw [nI_clamp (by omega), zup_self]
            refine And.intro (fun _ => b159_101 (b159_102 (And.intro rfl (h0 a ?_ _ t0 f0)))) (fun z => absurd rfl z)
            unfold tPart tLet
            rw [if_neg e2, if_neg e3, if_neg e4, if_neg e])
theorem kPt_keep {i j : Nat} {pt : zpt} {I' : zI} (hO : kFb O A B C D) (h : kPt A B C D j pt I) (hf : ∀ o k, ¬ (pPa A B C i o k ∨ o = O ∨ (o = D ∧ k = i)) → I' o k = I o k) (hne : j ≠ i) (hlen : pt.2.2.length ≤ 9) : kPt A B C D j pt I' := by
  obtain ⟨a1, a2, a3⟩ := h
  unfold kFb at hO
  unfold pPa at hf
  refine ⟨?_, ?_, fun z => ⟨?_, fun i' d hd => ?_⟩⟩
  · rw [hf A j (by omega)]
    exact a1
  · rw [hf D j (by omega)]
    exact a2
  · rw [hf C j (by omega)]
    exact (a3 z).1
  · have hi' : i' < pt.2.2.length := (List.getElem?_eq_some_iff.mp hd).1
    rw [hf B (9 * j + i') (by omega)]
    exact (a3 z).2 i' d hd
theorem sFoF_sum (ps : List zpt) (pt : zpt) : sSum (sFoF (ps ++ [pt])).2.2.1 (ps ++ [pt]).length = sSum (sFoF ps).2.2.1 ps.length + pt.2.1 := by
  rw [snoc_len]
  show sSum (sFoF (ps ++ [pt])).2.2.1 ps.length + (sPtk (ps ++ [pt]) ps.length).2.1 = _
  rw [sPtk_get (show (ps ++ [pt])[ps.length]? = some pt by rw [List.getElem?_append_right (Nat.le_refl _), Nat.sub_self]; rfl)]
  congr 1
  refine sSum_congr _ fun i hi => ?_
  show (sPtk (ps ++ [pt]) i).2.1 = (sPtk ps i).2.1
  unfold sPtk
  rw [List.getElem?_append_left hi]
theorem kFo_of {ps : List zpt} (h5 : I O 5 = nI ps.length) (h4 : I O 4 = nI (sSum (sFoF ps).2.2.1 ps.length)) (hp : ∀ j pt, ps[j]? = some pt → kPt A B C D j pt I) : kFo O A B C D (sFoF ps) I := by
  refine ⟨h5, h4, fun k hk => ?_⟩
  have hk : k < ps.length := hk
  have e := hp k ps[k] (List.getElem?_eq_getElem hk)
  have e2 : sPtk ps k = ps[k] := sPtk_get (List.getElem?_eq_getElem hk)
  show I A k = nI (sPtk ps k).1 ∧ I D k = nI (sPtk ps k).2.1 ∧ ((sPtk ps k).1 = 114 → I C k = nI (sPtk ps k).2.2.length ∧ ∀ i, i < (sPtk ps k).2.2.length → I B (9 * k + i) = nI (((sPtk ps k).2.2[i]?).getD 0))
  rw [e2]
  refine ⟨e.1, e.2.1, fun z => ⟨(e.2.2 z).1, fun i hi => ?_⟩⟩
  rw [(e.2.2 z).2 i _ (List.getElem?_eq_getElem hi), List.getElem?_eq_getElem hi]
  rfl
theorem k_readFoe (hO : kFb O A B C D) (ht : kTx tx tn 0 I) (h1 : ∀ ps p, tFoe tx tn 41 [] 0 = (some ps, p) → ∀ I' : zI, kFo O A B C D (sFoF ps) I' → kTx tx tn p I' → pFr (pFe O A B C D) I I' → post (some (.int 1)) I' L (zR1 q)) (h0 : ∀ e, tFoe tx tn 41 [] 0 = (none, e) → ∀ I' : zI, kTx tx tn e I' → pFr (pFe O A B C D) I I' → post (some (.int 0)) I' L (zR1 q)) : zC G (n + 5) 158 [.ref O, .ref 41] I L (zR1 q) post := by
  have hO' := hO
  rcases hO with ⟨o1, o2, o3, o4, o5⟩ | ⟨o1, o2, o3, o4, o5⟩ | ⟨o1, o2, o3, o4, o5⟩ | ⟨o1, o2, o3, o4, o5⟩ | ⟨o1, o2, o3, o4, o5⟩ | ⟨o1, o2, o3, o4, o5⟩ | ⟨o1, o2, o3, o4, o5⟩ | ⟨o1, o2, o3, o4, o5⟩ <;> (
    have key : ∀ (j i a : Nat) (ps : List zpt) (J : zI), i + j = 14 → ps.length = i → 3 * i ≤ a → a ≤ 40 → tFoe tx tn 41 [] 0 = tFoe tx tn (27 + j) ps a → (∀ pt, pt ∈ ps → pt.2.2.length ≤ 9) → sSum (sFoF ps).2.2.1 ps.length ≤ 9 * i → kTx tx tn a J → J O 5 = nI i → J O 4 = nI (sSum (sFoF ps).2.2.1 ps.length) → (∀ j pt, ps[j]? = some pt → kPt A B C D j pt J) → pFr (pFe O A B C D) I J → zQ G 158 (n + 4) post 12 [some (.ref O), some (.ref 41), some (.int (nI i))] [] J L (zR1 q) := by
      intro j
      induction j with
      | zero =>
        intro i a ps J hi hl ha ha40
        omega
      | succ j ih =>
        intro i a ps J hi hl ha ha40 hT hps hsum hJ h5 h4 hpt hf
        have hT2 : tFoe tx tn 41 [] 0 = zbd (tPart tx tn a) fun pt p => if tH tx tn p = some 59 then tFoe tx tn (27 + j) (ps ++ [pt]) (p + 1) else tEnd tn (ps ++ [pt]) p := hT
        have kp := fun (pt : zpt) (J' : zI) jj (h : kPt A B C D jj pt J) (hf : ∀ o k, ¬ (pPa A B C i o k ∨ o = O ∨ (o = D ∧ k = i)) → J' o k = J o k) (hne : jj ≠ i) (hlen : pt.2.2.length ≤ 9) => kPt_keep (O := O) hO' h hf hne hlen
        have kFoo := fun (J' : zI) (ps' : List zpt) a1 a2 a3 => kFo_of (I := J') (O := O) (A := A) (B := B) (C := C) (D := D) (ps := ps') a1 a2 a3
        have fIa : ∀ I' : zI, pFr (pPa A B C i) J I' → pFr (pFe O A B C D) I I' := fun I' hfI => pFr_tr hf (pFr_le hfI (fun o k z => by unfold pPa at z; unfold pFe; omega))
        have fin : ∀ (c d : Nat) (l : List Nat) (p : Nat) (X : zI), (tFoe tx tn 41 [] 0 = if tH tx tn (p + 1) = some 59 then tFoe tx tn (27 + j) (ps ++ [(c, d, l)]) (p + 1 + 1) else tEnd tn (ps ++ [(c, d, l)]) (p + 1)) → l.length ≤ 9 → d ≤ 9 → 3 * i + 2 ≤ p + 1 → p + 1 ≤ 40 → kTx tx tn (p + 1) X → X O 5 = nI (i + 1) → X O 4 = nI (sSum (sFoF ps).2.2.1 ps.length + d) → kPt A B C D i (c, d, l) X → (∀ j pt, ps[j]? = some pt → kPt A B C D j pt X) → pFr (pFe O A B C D) I X → (p + 1 = tn → post (some (.int 1)) X L (zR1 q)) ∧ (p + 1 ≠ tn → zQ G 158 (n + 4) post 87 [some (.ref O), some (.ref 41), some (.int (nI i))] [] X L (zR1 q)) := by
          intro c d l p X hT2 hl9 hd9 hp hp40 hX x5 x4 xi xo xf
          have hsumN := sFoF_sum ps (c, d, l)
          have hlN : (ps ++ [(c, d, l)]).length = i + 1 := by rw [snoc_len, hl]
          have hle := hX.2.2.2.1
          have xall : ∀ j pt, (ps ++ [(c, d, l)])[j]? = some pt → kPt A B C D j pt X := by
            intro jj pt hj
            rcases snoc_get hj with ⟨e1, e2⟩ | ⟨e1, e2⟩
            · rw [e1, e2, hl]
              exact xi
            · exact xo jj pt e2
          refine ⟨fun z => ?_, fun z => ?_⟩
          · rw [if_neg (fun w => by have := (tH_s w).1; omega)] at hT2
            unfold tEnd at hT2
            rw [if_neg (by omega)] at hT2
            exact h1 _ _ hT2 X (kFoo X _ (by rw [x5, hlN]) (by rw [x4, hsumN]) xall) hX xf
          · have ihX := fun (X' : zI) (e : tH tx tn (p + 1) = some 59) w1 w2 w3 w4 w5 => ih (i + 1) (p + 1 + 1) (ps ++ [(c, d, l)]) X' (by omega) hlN (by omega) (by have := (tH_s e).2.1; omega) (by rw [hT2, if_pos e]) (fun pt hp => by
              rcases List.mem_append.mp hp with h | h
              · exact hps pt h
              · rw [List.mem_singleton.mp h]; exact hl9) (by rw [hsumN]; show _ + d ≤ _; omega) w1 w2 w3 w4 w5
            subst o1 o2 o3 o4 o5
            refine b158_87 (k_takes (c := 59) rfl (by decide) hX (fun e _ tA => And.intro (fun _ => b158_98 ?_) (fun z => absurd z (by decide))) (fun e => And.intro (fun z => absurd rfl z) (fun _ => And.intro rfl ?_)))
            · have qq := ihX _ e tA (by rw [zup_ne (by decide)]; exact x5) (by rw [zup_ne (by decide), hsumN]; exact x4) (fun jj pt hj => by
                have := xall jj pt hj
                unfold kPt at this ⊢
                rw [zup_ne (by decide), zup_ne (by decide), zup_ne (by decide), zup_ne (by decide)]
                exact this) (pFr_up xf (.inl ⟨rfl, rfl⟩))
              rw [← nI_1] at qq
              exact qq
            · rw [if_neg e] at hT2
              unfold tEnd at hT2
              rw [if_pos (by omega)] at hT2
              exact h0 _ hT2 X hX xf
        subst o1 o2 o3 o4 o5
        refine b158_12 (pk_le 14 i (fun z => absurd z (by omega)) (fun _ => k_letter hO' (by omega) hJ (fun c l p hP hc hl9 hd8 hp hp40 I' hA hW hI hfI => And.intro (fun _ => b158_29 ?_) (fun z => absurd z (by decide))) (fun e hP I' hI hfI => And.intro (fun z => absurd rfl z) (fun _ => And.intro rfl ?_))) rfl rfl (by omega) (by omega))
        · -- the share
          have fI := fIa I' hfI
          refine k_digit (lo := 1) (hi := 9) rfl rfl (by omega) (by omega) hI (fun d hd hd1 hd9 hp40' hptn tA => ?_) (fun hd => ?_)
          · have eP : tPart tx tn a = (some (c, d, l), p + 1) := by
              rw [hP]
              unfold tPtB
              rw [hd]
              rfl
            rw [eP] at hT2
            have hT2 : tFoe tx tn 41 [] 0 = if tH tx tn (p + 1) = some 59 then tFoe tx tn (27 + j) (ps ++ [(c, d, l)]) (p + 1 + 1) else tEnd tn (ps ++ [(c, d, l)]) (p + 1) := hT2
            have fX := fin c d l p
            refine And.intro (vp_in_nI (by omega) (by decide)) (And.intro (vp_in_nI (by omega) (by decide)) ?_)
            rw [nI_clamp (by omega), zup_self]
            refine And.intro (fun _ => b158_53 ?_) (fun z => absurd (nI_pos' (by omega)) z)
            refine And.intro rfl (And.intro rfl (And.intro (vp_in_nI (by omega) (by decide)) ?_))
            rw [nI_clamp (by omega)]
            have tK : ∀ (X : zI), X 41 = (zup I' 41 2 (nI (p + 1))) 41 → X 42 = (zup I' 41 2 (nI (p + 1))) 42 → kTx tx tn (p + 1) X := fun X e1 e2 => kTx_of tA e1 e2
            have gg := fun (X : zI) w1 w2 w3 w4 w5 w6 => fX X hT2 hl9 hd9 (by omega) (by omega) w1 w2 w3 w4 w5 w6
            refine (fun (X : zI) (w1 : kTx tx tn (p + 1) X) (w : (p + 1 = tn → post (some (.int 1)) X L (zR1 q)) ∧ (p + 1 ≠ tn → zQ G 158 (n + 4) post 87 [some (.ref _), some (.ref 41), some (.int (nI i))] [] X L (zR1 q))) => k_ended w1 (zbo_eq (fun c => w.2 (of_decide_eq_false c)) (fun c => And.intro rfl (w.1 (of_decide_eq_true c))))) _ ?_ ?_
            · exact tK _ rfl rfl
            · refine gg _ (tK _ rfl rfl) ?_ ?_ ?_ (fun j' pt' hj' => ?_) ?_
              · rw [zup_k (by decide), zup_self, zup_ne (by decide), zup_ne (by decide), hfI _ 5 (by unfold pPa; omega), h5, nI_1]
              · rw [zup_self, zup_k (by decide), zup_ne (by decide), zup_ne (by decide), zup_ne (by decide), zup_self, hfI _ 4 (by unfold pPa; omega), h4, nI_add]
              · refine ⟨?_, ?_, fun z => ⟨?_, fun i' d' hd' => ?_⟩⟩
                · rw [zup_ne (by decide), zup_ne (by decide), zup_ne (by decide), zup_ne (by decide)]
                  exact hA
                · rw [zup_ne (by decide), zup_ne (by decide), zup_self]
                · rw [zup_ne (by decide), zup_ne (by decide), zup_ne (by decide), zup_ne (by decide)]
                  exact (hW z).1
                · rw [zup_ne (by decide), zup_ne (by decide), zup_ne (by decide), zup_ne (by decide)]
                  exact (hW z).2 i' d' hd'
              · have hji : j' < ps.length := (List.getElem?_eq_some_iff.mp hj').1
                refine kp pt' _ j' (hpt j' pt' hj') (fun o k z => ?_) (by omega) (hps pt' (List.mem_of_getElem? hj'))
                have z1 : ¬ pPa _ _ _ i o k := fun w => z (.inl w)
                rw [zup_ne (fun w => z (.inr (.inl w))), zup_ne (fun w => z (.inr (.inl w))), ← hfI o k z1]
                by_cases d1 : o = 41
                · subst d1
                  rw [zup_ne (by decide), zup_k (fun w => z1 (.inl ⟨rfl, w⟩))]
                · refine Eq.trans ?_ (congrFun (zup_ne (f := I') (k := 2) (v := nI (p + 1)) d1) k)
                  unfold zup
                  split
                  · rename_i w1
                    split
                    · rename_i w2
                      exact absurd (.inr (.inr ⟨w1, w2⟩)) z
                    · rfl
                  · rfl
              · exact pFr_up (pFr_up (pFr_up (pFr_up fI (.inl ⟨rfl, rfl⟩)) (by unfold pFe; omega)) (by unfold pFe; omega)) (by unfold pFe; omega)
          · refine And.intro (vp_in_nI (by omega) (by decide)) (And.intro (vp_in_nI (by omega) (by decide)) ?_)
            rw [nI_clamp (by omega), zup_self]
            refine And.intro (fun z => absurd z (by decide)) (fun _ => And.intro rfl ?_)
            refine h0 p ?_ _ (kTx_of hI (zup_ne (by decide)) (zup_ne (by decide))) (pFr_up fI (by unfold pFe; omega))
            rw [hT2, hP]
            unfold tPtB
            rw [hd]
            rfl
        · refine h0 e ?_ I' hI (pFr_tr hf (pFr_le hfI (fun o k z => by unfold pPa at z; unfold pFe; omega)))
          rw [hT2, hP]
          rfl
    have qq := key 14 0 0 [] (zup (zup I O 5 0) O 4 0) (by omega) rfl (by omega) (by omega) rfl (fun pt hp => by cases hp) (Nat.le_refl _)
    subst o1 o2 o3 o4 o5
    exact zin0 rfl rfl rfl (b158_0 (qq (kTx_of ht ((zup_ne (by decide)).trans (zup_ne (by decide))) ((zup_ne (by decide)).trans (zup_ne (by decide)))) rfl rfl (fun j pt hj => by cases hj) (pFr_up (pFr_up (pFr_0 _ _) (.inr (.inl rfl))) (.inr (.inl rfl))))))
end
