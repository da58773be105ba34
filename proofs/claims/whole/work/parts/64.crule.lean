-- ===== the class: rules =====
def kRo (O A T : Nat) : Prop := (O = 107 ∧ A = 108 ∧ T = 109) ∨ (O = 110 ∧ A = 111 ∧ T = 112) ∨ (O = 113 ∧ A = 114 ∧ T = 115) ∨ (O = 116 ∧ A = 117 ∧ T = 118) ∨ (O = 119 ∧ A = 120 ∧ T = 121) ∨ (O = 122 ∧ A = 123 ∧ T = 124) ∨ (O = 125 ∧ A = 126 ∧ T = 127) ∨ (O = 128 ∧ A = 129 ∧ T = 130)
theorem kRo_r {r : Nat} (h : r < 8) : kRo (107 + 3 * r) (108 + 3 * r) (109 + 3 * r) := by
  unfold kRo
  omega
theorem zR_rule : ∀ r, r < 8 → zR0 70 r = some (107 + 3 * r) := by decide +kernel
/-- a rule's object holds the rule -/
def kRu (O A T : Nat) (s : zrS) (I : zI) : Prop := I O 2 = nI s.2.2 ∧ ∀ k, k < 3 → I A k = iI (s.1 k) ∧ I T k = zbo (s.2.1 k)
def tRr (O A T o k : Nat) : Bool := (Nat.beq o 41 && Nat.beq k 2) || Nat.beq o O || Nat.beq o A || Nat.beq o T
def sAm (s : zrS) (e i : Nat) : Int := s.1 e * (if s.2.1 e = true then ((i + 1 : Nat) : Int) else 1)
theorem kRu_of {O A T : Nat} {s : zrS} {I I' : zI} (h : kRu O A T s I) (h1 : I' O = I O) (h2 : I' A = I A) (h3 : I' T = I T) : kRu O A T s I' := by
  unfold kRu
  rw [h1, h2, h3]
  exact h
theorem sAm_bd {s : zrS} (h : rsOk s) {e i : Nat} (he : e < 3) (hi : i < 20) : -1980 ≤ sAm s e i ∧ sAm s e i ≤ 1980 := by
  have b := h.1 e he
  unfold sAm
  split
  · constructor
    · have q : (-99 : Int) * ((i + 1 : Nat) : Int) ≤ s.1 e * ((i + 1 : Nat) : Int) := Int.mul_le_mul_of_nonneg_right b.1 (by omega)
      omega
    · have q : s.1 e * ((i + 1 : Nat) : Int) ≤ (99 : Int) * ((i + 1 : Nat) : Int) := Int.mul_le_mul_of_nonneg_right b.2 (by omega)
      omega
  · omega
section
variable {G : zG} {n : Nat} {I : zI} {L : zL} {q : zq} {post : zPo} {tx : Nat → Nat} {tn a : Nat} {O A T : Nat} {s : zrS}
theorem k_amount {e i : Nat} (hO : kRo O A T) (hs : kRu O A T s I) (he : e < 3) (h : post (some (.int (iI (sAm s e i)))) I L (zR1 q)) : zC G (n + 1) 210 [.ref O, .int (nI e), .int (nI i)] I L (zR1 q) post := by
  have h1 := (hs.2 e he).1
  have h2 := (hs.2 e he).2
  unfold sAm at h
  rcases hO with ⟨rfl, rfl, rfl⟩ | ⟨rfl, rfl, rfl⟩ | ⟨rfl, rfl, rfl⟩ | ⟨rfl, rfl, rfl⟩ | ⟨rfl, rfl, rfl⟩ | ⟨rfl, rfl, rfl⟩ | ⟨rfl, rfl, rfl⟩ | ⟨rfl, rfl, rfl⟩ <;> (
    refine zin0 rfl rfl rfl (b210_0 (And.intro (fun z => absurd z (nI_pos (by omega))) (fun _ => And.intro (fun _ => b210_15 (And.intro (vp_in_nI he (by decide)) ?_)) (fun z => absurd ((nI_ltI (b := 3) (by omega) (by omega)).mpr he) z))))
    rw [nI_clamp (by omega), h2]
    refine zbo_eq (fun c => b210_37 (And.intro (vp_in_nI he (by decide)) (b210_43 ?_))) (fun c => And.intro (vp_in_nI he (by decide)) (b210_43 ?_))
    · rw [nI_clamp (by omega), h1]
      rw [if_neg (by rw [c]; decide), Int.mul_one] at h
      exact h
    · rw [nI_clamp (by omega), h1, nI_1, ← iI_n (i + 1), iI_mul]
      rw [if_pos c] at h
      exact h)
theorem k_ruRefill (hO : kRo O A T) (hs : kRu O A T s I) (h : post (some (.int (nI s.2.2))) I L (zR1 q)) : zC G (n + 1) 209 [.ref O] I L (zR1 q) post := by
  rw [← hs.1] at h
  rcases hO with ⟨rfl, rfl, rfl⟩ | ⟨rfl, rfl, rfl⟩ | ⟨rfl, rfl, rfl⟩ | ⟨rfl, rfl, rfl⟩ | ⟨rfl, rfl, rfl⟩ | ⟨rfl, rfl, rfl⟩ | ⟨rfl, rfl, rfl⟩ | ⟨rfl, rfl, rfl⟩ <;> exact zin0 rfl rfl rfl (b209_0 h)
theorem k_leaves {e i b : Nat} (hO : kRo O A T) (hs : kRu O A T s I) (hok : rsOk s) (he : e < 3) (hi : i < 20) (hb : b ≤ 1000) (h : post (some (.int (nI ((b : Int) + sAm s e i).toNat))) I L (zR1 q)) : zC G (n + 2) 211 [.ref O, .int (nI e), .int (nI i), .int (nI b)] I L (zR1 q) post := by
  have bd := sAm_bd hok he hi
  have hO' := hO
  have fin : (if (0 : Int32) < nI b + iI (sAm s e i) then nI b + iI (sAm s e i) else 0) = nI ((b : Int) + sAm s e i).toNat := by
    rw [← iI_n b, iI_add]
    have z : (0 : Int32) < iI ((b : Int) + sAm s e i) ↔ 0 < (b : Int) + sAm s e i := iI_lt (a := 0) (b := (b : Int) + sAm s e i) (by omega) (by omega) (by omega) (by omega)
    by_cases d : 0 < (b : Int) + sAm s e i
    · rw [if_pos (z.mpr d)]
      exact iI_nat (by omega)
    · rw [if_neg (fun w => d (z.mp w)), show ((b : Int) + sAm s e i).toNat = 0 by omega]
      rfl
  rcases hO with ⟨rfl, rfl, rfl⟩ | ⟨rfl, rfl, rfl⟩ | ⟨rfl, rfl, rfl⟩ | ⟨rfl, rfl, rfl⟩ | ⟨rfl, rfl, rfl⟩ | ⟨rfl, rfl, rfl⟩ | ⟨rfl, rfl, rfl⟩ | ⟨rfl, rfl, rfl⟩ <;> (
    refine zin0 rfl rfl rfl (b211_0 (k_amount hO' hs he ?_))
    rw [← fin] at h
    exact h)
theorem k_line (hO : kRo O A T) (ht : kTx tx tn a I) (hs : kRu O A T s I) (hok : rsOk s) (h1 : ∀ s' p, tLine tx tn s a = (some s', p) → rsOk s' → a + 1 < p → ∀ I' : zI, kRu O A T s' I' → kTx tx tn p I' → zFr (tRr O A T) I I' → post (some (.int 1)) I' L (zR1 q)) (h0 : ∀ e, tLine tx tn s a = (none, e) → ∀ I' : zI, kTx tx tn e I' → zFr (tRr O A T) I I' → post (some (.int 0)) I' L (zR1 q)) : zC G (n + 4) 208 [.ref O, .ref 41] I L (zR1 q) post := by
  rcases hO with ⟨o1, o2, o3⟩ | ⟨o1, o2, o3⟩ | ⟨o1, o2, o3⟩ | ⟨o1, o2, o3⟩ | ⟨o1, o2, o3⟩ | ⟨o1, o2, o3⟩ | ⟨o1, o2, o3⟩ | ⟨o1, o2, o3⟩ <;> (
    -- the amount stored, and whether times
    have star : ∀ (k v p : Nat) (mo : Bool) (z : Int) (x : Int32) (J : zI), k < 3 → v ≤ 99 → a + 1 < p → x = iI z → -99 ≤ z → z ≤ 99 → tLine tx tn s a = tStar tx tn s k z p → kTx tx tn p J → kRu O A T s J → zFr (tRr O A T) I J → zQ G 208 (n + 3) post 120 [some (.ref O), some (.ref 41), some (.int (nI k)), some (.int (zbo mo)), some (.int (nI v))] [.int x, .int (nI k), .ref A] J L (zR1 q) := by
      intro k v p mo z x J hk hv hp hx hz1 hz2 hT hJ hs' hf
      have bst : ∀ (b : Bool) (p' : Nat) (K : zI), tLine tx tn s a = (some (fup s.1 k z, fup s.2.1 k b, s.2.2), p') → a + 1 < p' → kTx tx tn p' K → (∀ o, o ≠ 41 → K o = zup J A k x o) → zFr (tRr O A T) I K → zQ G 208 (n + 3) post 145 [some (.ref O), some (.ref 41), some (.int (nI k)), some (.int (zbo mo)), some (.int (nI v))] [.int (zbo b), .int (nI k), .ref T] K L (zR1 q) := by
        intro b p' K hT' hp' hK hKo hfK
        subst o1 o2 o3
        refine b208_145 (And.intro (vp_in_nI hk (by decide)) (And.intro (fun z => absurd z (nI_pos (by omega))) (fun _ => b208_156 (And.intro rfl ?_))))
        rw [nI_clamp (by omega), zbo_nar2]
        refine h1 _ p' hT' ⟨fun j hj => ?_, hok.2⟩ hp' _ ⟨?_, fun j hj => ⟨?_, ?_⟩⟩ (kTx_of hK (zup_ne (by decide)) (zup_ne (by decide))) (zFr_up hfK rfl)
        · by_cases d : j = k
          · rw [d]
            show -99 ≤ fup s.1 k z k ∧ fup s.1 k z k ≤ 99
            rw [fup_s]
            exact ⟨hz1, hz2⟩
          · show -99 ≤ fup s.1 k z j ∧ fup s.1 k z j ≤ 99
            rw [fup_n d]
            exact hok.1 j hj
        · rw [zup_ne (by decide), hKo _ (by decide), zup_ne (by decide)]
          exact hs'.1
        · rw [zup_ne (by decide), hKo _ (by decide), zup_eq]
          by_cases d : j = k
          · rw [if_pos d, d, hx]
            show iI z = iI (fup s.1 k z k)
            rw [fup_s]
          · rw [if_neg d]
            show _ = iI (fup s.1 k z j)
            rw [fup_n d]
            exact (hs'.2 j hj).1
        · rw [zup_eq]
          by_cases d : j = k
          · rw [if_pos d, d]
            show zbo b = zbo (fup s.2.1 k b k)
            rw [fup_s]
          · rw [if_neg d, hKo _ (by decide), zup_ne (by decide)]
            show _ = zbo (fup s.2.1 k b j)
            rw [fup_n d]
            exact (hs'.2 j hj).2
      have hJ' : kTx tx tn p (zup J A k x) := by
        subst o1 o2 o3
        exact kTx_of hJ (zup_ne (by decide)) (zup_ne (by decide))
      have hfJ : zFr (tRr O A T) I (zup J A k x) := by
        subst o1 o2 o3
        exact zFr_up hf rfl
      subst o1 o2 o3
      refine b208_120 (And.intro (vp_in_nI hk (by decide)) ?_)
      rw [nI_clamp (by omega)]
      refine And.intro (fun z => absurd z (nI_pos (by omega))) (fun _ => k_takes (c := 42) rfl (by decide) hJ' (fun e _ tA => And.intro (fun z => absurd z (by decide)) (fun _ => ?_)) (fun e => And.intro (fun _ => b208_144 ?_) (fun z => absurd rfl z)))
      · refine bst true (p + 1) _ (hT.trans (by unfold tStar; rw [if_pos e])) (by omega) tA (fun o ho => zup_ne ho) (zFr_up hfJ rfl)
      · exact bst false p _ (hT.trans (by unfold tStar; rw [if_neg e])) hp hJ' (fun o ho => rfl) hfJ
    -- the number
    have num : ∀ (k p : Nat) (mo : Bool) (J : zI), k < 3 → a + 1 < p → (tLine tx tn s a = zbd (tNum tx tn p) fun v p => tStar tx tn s k (if mo = true then (v : Int) else -(v : Int)) p) → kTx tx tn p J → kRu O A T s J → zFr (tRr O A T) I J → zQ G 208 (n + 3) post 95 [some (.ref O), some (.ref 41), some (.int (nI k)), some (.int (zbo mo)), none] [] J L (zR1 q) := by
      intro k p mo J hk hp hT hJ hs' hf
      have fail : tNum tx tn p = (none, p) → ∀ (x : Int32), zQ G 208 (n + 3) post 120 [some (.ref O), some (.ref 41), some (.int (nI k)), some (.int (zbo mo)), some (.int (-1))] [.int x, .int (nI k), .ref A] J L (zR1 q) := by
        intro hv x
        rw [hv] at hT
        subst o1 o2 o3
        refine b208_120 (And.intro (vp_in_nI hk (by decide)) (And.intro (fun _ => b208_144 (b208_145 (And.intro (vp_in_nI hk (by decide)) (And.intro (fun _ => b208_155 (b208_156 (And.intro rfl ?_))) (fun z => absurd (by decide) z))))) (fun z => absurd (by decide) z)))
        exact h0 p hT _ (kTx_of hJ ((zup_ne (by decide)).trans (zup_ne (by decide))) ((zup_ne (by decide)).trans (zup_ne (by decide)))) (zFr_up (zFr_up hf rfl) rfl)
      have sA : ∀ p', kRu O A T s (zup J 41 2 (nI p')) := by
        intro p'
        subst o1 o2 o3
        exact kRu_of hs' (zup_ne (by decide)) (zup_ne (by decide)) (zup_ne (by decide))
      have fA : ∀ p', zFr (tRr O A T) I (zup J 41 2 (nI p')) := fun p' => zFr_up hf rfl
      subst o1 o2 o3
      refine b208_95 (k_number (mo := 99) rfl (by omega) (by omega) hJ (fun v p' hv hv99 hp1 hp40 tA => ?_) (fun v p' hv hv99 hp1 hp40 tA => absurd (tNum_bd hv).1 (by omega)) (fun hv => ?_))
      · rw [hv] at hT
        refine zbo_eq (fun c => b208_117 ?_) (fun c => ?_)
        · refine star k v p' mo (-(v : Int)) _ _ hk hv99 (by omega) (by rw [← iI_n, iI_neg]) (by omega) (by omega) (hT.trans ?_) tA (sA p') (fA p')
          rw [c]
          rfl
        · refine star k v p' mo (v : Int) _ _ hk hv99 (by omega) (iI_n v).symm (by omega) (by omega) (hT.trans ?_) tA (sA p') (fA p')
          rw [c]
          rfl
      · refine zbo_eq (fun c => b208_117 (fail hv _)) (fun c => fail hv _)
    -- plus or minus
    have tail : ∀ (k : Nat) (J : zI), k < 3 → tH tx tn a ≠ some 101 → tKnd tx tn a = some k → kTx tx tn (a + 1) J → kRu O A T s J → zFr (tRr O A T) I J → zQ G 208 (n + 3) post 73 [some (.ref O), some (.ref 41), some (.int (nI k)), none, none] [] J L (zR1 q) := by
      intro k J hk hne hkn hJ hs' hf
      have eT : tLine tx tn s a = if tH tx tn (a + 1) = some 43 then zbd (tNum tx tn (a + 2)) fun v p => tStar tx tn s k (v : Int) p else if tH tx tn (a + 1) = some 45 then zbd (tNum tx tn (a + 2)) fun v p => tStar tx tn s k (-(v : Int)) p else (none, a + 1) := by
        unfold tLine
        rw [if_neg hne, hkn]
      have sA : ∀ p, kRu O A T s (zup J 41 2 (nI p)) := by
        intro p
        subst o1 o2 o3
        exact kRu_of hs' (zup_ne (by decide)) (zup_ne (by decide)) (zup_ne (by decide))
      subst o1 o2 o3
      refine b208_73 (k_takes (c := 43) rfl (by decide) hJ (fun e _ tA => And.intro (fun _ => ?_) (fun z => absurd z (by decide))) (fun e => And.intro (fun z => absurd rfl z) (fun _ => k_takes (c := 45) rfl (by decide) hJ (fun e3 _ tA => And.intro (fun _ => ?_) (fun z => absurd z (by decide))) (fun e3 => And.intro (fun z => absurd rfl z) (fun _ => And.intro rfl ?_)))))
      · exact num k (a + 2) true _ hk (by omega) (by rw [eT, if_pos e]; rfl) tA (sA _) (zFr_up hf rfl)
      · exact num k (a + 2) false _ hk (by omega) (by rw [eT, if_neg e, if_pos e3]; rfl) tA (sA _) (zFr_up hf rfl)
      · exact h0 (a + 1) (by rw [eT, if_neg e, if_neg e3]) _ hJ hf
    have sA0 : ∀ p, kRu O A T s (zup I 41 2 (nI p)) := by
      intro p
      subst o1 o2 o3
      exact kRu_of hs (zup_ne (by decide)) (zup_ne (by decide)) (zup_ne (by decide))
    subst o1 o2 o3
    refine zin0 rfl rfl rfl (b208_0 (k_takes (c := 101) rfl (by decide) ht (fun e _ tA => And.intro (fun z => absurd z (by decide)) (fun _ => ?_)) (fun e => And.intro (fun _ => b208_32 ?_) (fun z => absurd rfl z))))
    · have eT : tLine tx tn s a = zbd (tNum tx tn (a + 1)) fun v p => (some (s.1, s.2.1, v), p) := by
        unfold tLine
        rw [if_pos e]
      refine k_number (mo := 99) rfl (by omega) (by omega) tA (fun v p' hv hv99 hp1 hp40 tB => ?_) (fun v p' hv hv99 hp1 hp40 tB => absurd (tNum_bd hv).1 (by omega)) (fun hv => ?_)
      · refine And.intro (fun z => absurd z (nI_pos (by omega))) (fun _ => b208_31 (And.intro rfl ?_))
        refine h1 (s.1, s.2.1, v) p' (by rw [eT, hv]; rfl) ⟨hok.1, hv99⟩ (by omega) _ ⟨zup_self, fun k hk => ?_⟩ (kTx_of tB (zup_ne (by decide)) (zup_ne (by decide))) (zFr_up (zFr_up (zFr_up (zFr_0 _ _) rfl) rfl) rfl)
        rw [zup_ne (by decide), zup_ne (by decide), zup_ne (by decide), zup_ne (by decide), zup_ne (by decide), zup_ne (by decide)]
        exact hs.2 k hk
      · refine And.intro (fun _ => b208_30 (b208_31 (And.intro rfl ?_))) (fun z => absurd (show (-1 : Int32) < 0 by decide) z)
        exact h0 (a + 1) (by rw [eT, hv]; rfl) _ (kTx_of tA (zup_ne (by decide)) (zup_ne (by decide))) (zFr_up (zFr_up (zFr_0 _ _) rfl) rfl)
    · refine k_takes (c := 119) rfl (by decide) ht (fun e2 _ tA => And.intro (fun z => absurd z (by decide)) (fun _ => ?_)) (fun e2 => And.intro (fun _ => b208_48 ?_) (fun z => absurd rfl z))
      · exact tail 2 _ (by omega) e (by unfold tKnd; rw [if_pos e2]) tA (sA0 _) (zFr_up (zFr_0 _ _) rfl)
      · refine k_takes (c := 100) rfl (by decide) ht (fun e3 _ tA => And.intro (fun z => absurd z (by decide)) (fun _ => ?_)) (fun e3 => And.intro (fun _ => b208_62 ?_) (fun z => absurd rfl z))
        · exact tail 1 _ (by omega) e (by unfold tKnd; rw [if_neg e2, if_pos e3]) tA (sA0 _) (zFr_up (zFr_0 _ _) rfl)
        · refine k_takes (c := 108) rfl (by decide) ht (fun e4 _ tA => And.intro (fun _ => ?_) (fun z => absurd z (by decide))) (fun e4 => And.intro (fun z => absurd rfl z) (fun _ => And.intro rfl ?_))
          · exact tail 0 _ (by omega) e (by unfold tKnd; rw [if_neg e2, if_neg e3, if_pos e4]) tA (sA0 _) (zFr_up (zFr_0 _ _) rfl)
          · refine h0 a ?_ I ht (zFr_0 _ _)
            unfold tLine
            rw [if_neg e]
            unfold tKnd
            rw [if_neg e2, if_neg e3, if_neg e4])
theorem k_readRule (hO : kRo O A T) (ht : kTx tx tn 0 I) (h1 : ∀ s' p, tRule tx tn 41 rs0 0 = (some s', p) → rsOk s' → ∀ I' : zI, kRu O A T s' I' → kTx tx tn p I' → zFr (tRr O A T) I I' → post (some (.int 1)) I' L (zR1 q)) (h0 : ∀ e, tRule tx tn 41 rs0 0 = (none, e) → ∀ I' : zI, kTx tx tn e I' → zFr (tRr O A T) I I' → post (some (.int 0)) I' L (zR1 q)) : zC G (n + 5) 207 [.ref O, .ref 41] I L (zR1 q) post := by
  have hO' := hO
  rcases hO with ⟨o1, o2, o3⟩ | ⟨o1, o2, o3⟩ | ⟨o1, o2, o3⟩ | ⟨o1, o2, o3⟩ | ⟨o1, o2, o3⟩ | ⟨o1, o2, o3⟩ | ⟨o1, o2, o3⟩ | ⟨o1, o2, o3⟩ <;> (
    have key : ∀ (j line p : Nat) (s : zrS) (J : zI), line + j = 40 → 2 * line ≤ p → tRule tx tn 41 rs0 0 = tRule tx tn (j + 1) s p → rsOk s → kTx tx tn p J → kRu O A T s J → zFr (tRr O A T) I J → zQ G 207 (n + 4) post 38 [some (.ref O), some (.ref 41), some (.int (nI line))] [] J L (zR1 q) := by
      subst o1 o2 o3
      intro j
      induction j with
      | zero =>
        intro line p s J hl hp hT hok hJ hs' hf
        have := hJ.2.1
        have := hJ.2.2.2.1
        omega
      | succ j ih =>
        intro line p s J hl hp hT hok hJ hs' hf
        refine b207_38 (pk_le 40 line (fun z => absurd z (by omega)) (fun _ => k_line hO' hJ hs' hok (fun s' p' hL hok' hp' I' hs2 hJ2 hf2 => And.intro (fun _ => b207_54 ?_) (fun z => absurd z (by decide))) (fun e hL I' hJ2 hf2 => And.intro (fun z => absurd rfl z) (fun _ => And.intro rfl ?_))) rfl rfl (by omega) (by omega))
        · have hT : tRule tx tn 41 rs0 0 = zbd (tLine tx tn s p) (fun s p => if tH tx tn p = some 59 then tRule tx tn (j + 1) s (p + 1) else tEnd tn s p) := hT
          rw [hL] at hT
          have hT : tRule tx tn 41 rs0 0 = if tH tx tn p' = some 59 then tRule tx tn (j + 1) s' (p' + 1) else tEnd tn s' p' := hT
          have hle := hJ2.2.2.2.1
          refine k_ended hJ2 (zbo_eq (fun c => b207_63 ?_) (fun c => And.intro rfl ?_))
          · have hne : p' ≠ tn := of_decide_eq_false c
            refine k_takes (c := 59) rfl (by decide) hJ2 (fun e _ tA => And.intro (fun _ => b207_74 ?_) (fun z => absurd z (by decide))) (fun e => And.intro (fun z => absurd rfl z) (fun _ => And.intro rfl ?_))
            · rw [if_pos e] at hT
              have qq := ih (line + 1) (p' + 1) s' _ (by omega) (by omega) hT hok' tA (kRu_of hs2 (zup_ne (by decide)) (zup_ne (by decide)) (zup_ne (by decide))) (zFr_up (zFr_tr hf hf2) rfl)
              rw [← nI_1] at qq
              exact qq
            · rw [if_neg e] at hT
              unfold tEnd at hT
              rw [if_pos (by omega)] at hT
              exact h0 p' hT I' hJ2 (zFr_tr hf hf2)
          · have he : p' = tn := of_decide_eq_true c
            rw [if_neg (fun z => by have := (tH_s z).1; omega)] at hT
            unfold tEnd at hT
            rw [if_neg (by omega)] at hT
            exact h1 s' p' hT hok' I' hs2 hJ2 (zFr_tr hf hf2)
        · have hT : tRule tx tn 41 rs0 0 = zbd (tLine tx tn s p) (fun s p => if tH tx tn p = some 59 then tRule tx tn (j + 1) s (p + 1) else tEnd tn s p) := hT
          rw [hL] at hT
          exact h0 e hT I' hJ2 (zFr_tr hf hf2)
    have clr : ∀ (j i : Nat) (J : zI), i + j = 3 → kTx tx tn 0 J → (∀ k, k < i → J A k = 0 ∧ J T k = 0) → zFr (tRr O A T) I J → zQ G 207 (n + 4) post 2 [some (.ref O), some (.ref 41), some (.int (nI i))] [] J L (zR1 q) := by
      intro j
      induction j with
      | zero =>
        intro i J hi hJ hz hf
        subst o1 o2 o3
        refine b207_2 (pk_le 3 i (fun _ => b207_31 ?_) (fun z => absurd z (by omega)) rfl rfl (by omega) (by omega))
        refine key 40 0 0 rs0 _ (by omega) (by omega) rfl rs0_ok (kTx_of hJ (zup_ne (by decide)) (zup_ne (by decide))) ⟨zup_self, fun k hk => ⟨?_, ?_⟩⟩ (zFr_up hf rfl)
        · rw [zup_ne (by decide)]
          exact (hz k (by omega)).1
        · rw [zup_ne (by decide)]
          exact (hz k (by omega)).2
      | succ j ih =>
        intro i J hi hJ hz hf
        have qq := fun w1 w2 w3 => ih (i + 1) (zup (zup J A i 0) T i (vp_nar .boolean 0)) (by omega) w1 w2 w3
        rw [← nI_1] at qq
        subst o1 o2 o3
        refine b207_2 (pk_le 3 i (fun z => absurd z (by omega)) (fun _ => And.intro (vp_in_nI (by omega) (by decide)) (And.intro (vp_in_nI (by omega) (by decide)) ?_)) rfl rfl (by omega) (by omega))
        rw [nI_clamp (by omega)]
        refine qq (kTx_of hJ ((zup_ne (by decide)).trans (zup_ne (by decide))) ((zup_ne (by decide)).trans (zup_ne (by decide)))) (fun k hk => ⟨?_, ?_⟩) (zFr_up (zFr_up hf rfl) rfl)
        · rw [zup_ne (by decide), zup_eq]
          by_cases d : k = i
          · rw [if_pos d]
          · rw [if_neg d]
            exact (hz k (by omega)).1
        · rw [zup_eq]
          by_cases d : k = i
          · rw [if_pos d]
            rfl
          · rw [if_neg d, zup_ne (by decide)]
            exact (hz k (by omega)).2
    have qq := clr 3 0 I (by omega) ht (fun k hk => absurd hk (by omega)) (zFr_0 _ _)
    subst o1 o2 o3
    exact zin0 rfl rfl rfl (b207_0 qq))
end
