-- ===== the class: numbers, a game told =====
def kDk (x : Int32) : Prop := x = -1 ∨ ∃ v, 1 ≤ v ∧ v ≤ 3 ∧ x = nI v
theorem kDk_n {v : Nat} (h : 1 ≤ v ∧ v ≤ 3) : kDk (nI v) := .inr ⟨v, h.1, h.2, rfl⟩
/-- the draft's board, told or not -/
def kD (I : zI) : Prop := kDk (I 43 0) ∧ kDk (I 43 1) ∧ kDk (I 43 2)
theorem kTx_43 {tx : Nat → Nat} {n a k : Nat} {v : Int32} {I : zI} (h : kTx tx n a I) : kTx tx n a (zup I 43 k v) := kTx_of h (zup_ne (by decide)) (zup_ne (by decide))
def tGR (o k : Nat) : Bool := (Nat.beq o 41 && Nat.beq k 2) || Nat.beq o 43
theorem tNum_0 {tx : Nat → Nat} {n a : Nat} (h : tDig tx n 48 57 a = (none, a)) : tNum tx n a = (none, a) := by unfold tNum; rw [h]; rfl
section
variable {G : zG} {n : Nat} {I : zI} {L : zL} {q : zq} {post : zPo} {tx : Nat → Nat} {tn a : Nat}
theorem k_number {mo : Nat} {mi : Int32} (hmi : mi = nI mo) (hmo : 9 ≤ mo) (hmo2 : mo ≤ 99) (ht : kTx tx tn a I) (h1 : ∀ v p, tNum tx tn a = (some v, p) → v ≤ mo → a < p → p ≤ 40 → kTx tx tn p (zup I 41 2 (nI p)) → post (some (.int (nI v))) (zup I 41 2 (nI p)) L (zR1 q)) (h2 : ∀ v p, tNum tx tn a = (some v, p) → mo < v → a + 1 < p → p ≤ 40 → kTx tx tn (p - 1) (zup I 41 2 (nI (p - 1))) → post (some (.int (-1))) (zup I 41 2 (nI (p - 1))) L (zR1 q)) (h0 : tNum tx tn a = (none, a) → post (some (.int (-1))) I L (zR1 q)) : zC G (n + 3) 244 [.ref 41, .int mi] I L (zR1 q) post := by
  subst hmi
  refine zin0 rfl rfl rfl (b244_0 (k_digit (lo := 0) (hi := 9) rfl rfl (by omega) (by omega) ht (fun d hd hd0 hd9 ha hat ht' => ?_) (fun hd => ?_)))
  · refine k_current ht' ?_
    have stop : ∀ x : Int32, tNum tx tn a = (some d, a + 1) → zQ G 244 (n + 2) post 30 [some (.ref 41), some (.int (nI mo)), some (.int (nI d)), some (.int x)] [] (zup I 41 2 (nI (a + 1))) L (zR1 q) := fun x hx => b244_30 (h1 d (a + 1) hx (by omega) (by omega) (by omega) ht')
    unfold sCur
    cases e : tH tx tn (a + 1) with
    | none =>
      refine And.intro (fun z => absurd z (nI_pos (by omega))) (fun _ => And.intro (fun _ => stop _ ?_) (fun z => absurd (by decide) z))
      unfold tNum
      rw [hd]
      show (match tH tx tn (a + 1) with | some b => _ | none => _) = _
      rw [e]
    | some b =>
      obtain ⟨s1, s2, s3⟩ := tH_s e
      have hb : b < 256 := by rw [s3]; exact (ht.2.2.2.2 (a + 1) s1).2
      have z1 := zcu hb 0 9 (by omega) (by omega)
      refine And.intro (fun z => absurd z (nI_pos (by omega))) (fun _ => And.intro (fun c => stop _ ?_) (fun c => And.intro (fun c2 => b244_32 ?_) (fun c2 => stop _ ?_)))
      · have := z1.1.mp c
        unfold tNum
        rw [hd]
        show (match tH tx tn (a + 1) with | some b => _ | none => _) = _
        rw [e]
        exact if_neg (by omega)
      · have d1 : ¬ b < 48 + 0 := fun z => c (z1.1.mpr z)
        have d2 : ¬ 48 + 9 < b := fun z => Int32.not_lt.mpr c2 (z1.2.mpr z)
        have hv : tNum tx tn a = (some (10 * d + (b - 48)), a + 1 + 1) := by
          unfold tNum
          rw [hd]
          show (match tH tx tn (a + 1) with | some b => _ | none => _) = _
          rw [e]
          exact if_pos (by omega)
        have ev : (10 : Int32) * nI d + (nI b - 48) = nI (10 * d + (b - 48)) := by
          rw [zcu_v (b := b) (by omega), show (10 : Int32) = nI 10 from rfl, pk_mul, nI_add]
        refine pk_le (10 * d + (b - 48)) mo (fun c3 => b244_44 (And.intro rfl ?_)) (fun c3 => ?_) ev rfl (by omega) (by omega)
        · have qq := h1 _ _ hv c3 (by omega) (by omega)
          have hz : zup (zup I 41 2 (nI (a + 1))) 41 2 (zup I 41 2 (nI (a + 1)) 41 2 + 1) = zup I 41 2 (nI (a + 1 + 1)) := by rw [zup_zup, zup_self, nI_1]
          show post (some (.int ((10 : Int32) * nI d + (nI b - 48)))) (zup (zup I 41 2 (nI (a + 1))) 41 2 (zup I 41 2 (nI (a + 1)) 41 2 + 1)) _ _
          rw [hz, ev]
          exact qq (kTx_at ht (by omega))
        · exact h2 _ _ hv c3 (by omega) (by omega) (kTx_at ht (by omega))
      · have := z1.2.mp (Int32.not_le.mp c2)
        unfold tNum
        rw [hd]
        show (match tH tx tn (a + 1) with | some b => _ | none => _) = _
        rw [e]
        exact if_neg (by omega)
  · refine k_current ht ?_
    exact And.intro (fun _ => b244_30 (h0 (tNum_0 hd))) (fun z => absurd (by decide) z)
/-- a game that the draft holds -/
def kDr (r : zgp) (I : zI) : Prop := I 43 5 = zbo r.2.2.2.2 ∧ ((r.1 = true ∧ I 43 3 = nI r.2.1 ∧ I 43 4 = nI r.2.2.1) ∨ (r.1 = false ∧ I 43 3 = 0 ∧ I 43 4 = 0 ∧ I 43 0 = nI r.2.1 ∧ I 43 1 = nI r.2.2.1 ∧ I 43 2 = nI r.2.2.2.1))
def gpOk (r : zgp) : Prop := (r.1 = true → (1 ≤ r.2.1 ∧ r.2.1 ≤ 20) ∧ 1 ≤ r.2.2.1 ∧ r.2.2.1 ≤ 3) ∧ (r.1 = false → (1 ≤ r.2.1 ∧ r.2.1 ≤ 3) ∧ (1 ≤ r.2.2.1 ∧ r.2.2.1 ≤ 3) ∧ 1 ≤ r.2.2.2.1 ∧ r.2.2.2.1 ≤ 3)
theorem k_readRest {hh : Bool} {x y z : Nat} (ht : kTx tx tn a I) (h1 : ∀ m p, tFin tx tn hh x y z a = (some (hh, x, y, z, m), p) → ∀ I' : zI, I' 43 5 = zbo m → (∀ k, k ≠ 5 → I' 43 k = I 43 k) → kTx tx tn p I' → zFr tGR I I' → post (some (.int 1)) I' L (zR1 q)) (h0 : ∀ e, tFin tx tn hh x y z a = (none, e) → ∀ I' : zI, (∀ k, k ≠ 5 → I' 43 k = I 43 k) → kTx tx tn e I' → zFr tGR I I' → post (some (.int 0)) I' L (zR1 q)) : zC G (n + 3) 183 [.ref 43, .ref 41] I L (zR1 q) post := by
  have fin : ∀ (m : Bool) (p : Nat) (J : zI), tFin tx tn hh x y z a = tEnd tn (hh, x, y, z, m) p → kTx tx tn p J → J 43 5 = zbo m → (∀ k, k ≠ 5 → J 43 k = I 43 k) → zFr tGR I J → post (some (.int (zbo (decide (p = tn))))) J L (zR1 q) := by
    intro m p J hT hJ h5 hk hf
    have hle := hJ.2.2.2.1
    unfold tEnd at hT
    by_cases d : p = tn
    · rw [if_neg (by omega)] at hT
      rw [decide_eq_true d]
      exact h1 m p hT J h5 hk hJ hf
    · rw [if_pos (by omega)] at hT
      rw [decide_eq_false d]
      exact h0 p hT J hk hJ hf
  refine zin0 rfl rfl rfl (b183_0 (k_takes (c := 109) rfl (by decide) ht (fun e _ ht' => And.intro ⟨rfl, rfl⟩ (k_ended (kTx_43 ht') (And.intro (zbo_nar _) ?_))) (fun e => And.intro ⟨rfl, rfl⟩ (k_ended (kTx_43 ht) (And.intro (zbo_nar _) ?_)))))
  · refine fin true (a + 1) _ (by unfold tFin; rw [if_pos e]) (kTx_43 ht') zup_self (fun k hk => ?_) (zFr_up (zFr_up (zFr_0 _ _) rfl) rfl)
    rw [zup_k hk, zup_ne (by decide)]
  · exact fin false a _ (by unfold tFin; rw [if_neg e]) (kTx_43 ht) zup_self (fun k hk => zup_k hk) (zFr_up (zFr_0 _ _) rfl)
theorem zFr_43 {k : Nat} {v : Int32} {I' : zI} (h : zFr tGR I I') : zFr tGR I (zup I' 43 k v) := zFr_up h rfl
theorem zFr_41 {v : Int32} {I' : zI} (h : zFr tGR I I') : zFr tGR I (zup I' 41 2 v) := zFr_up h rfl
theorem tNeed_t {c : Nat} (h : tH tx tn a = some c) : tNeed tx tn c a = (some 0, a + 1) := if_pos h
theorem tNeed_f {c : Nat} (h : tH tx tn a ≠ some c) : tNeed tx tn c a = (none, a) := if_neg h
theorem k_readBoard (ht : kTx tx tn 1 I) (hd : kD I) (h1 : ∀ r p, tGameG tx tn = (some r, p) → gpOk r → r.1 = false → ∀ I' : zI, kDr r I' → kD I' → kTx tx tn p I' → zFr tGR I I' → post (some (.int 1)) I' L (zR1 q)) (h0 : ∀ e, tGameG tx tn = (none, e) → ∀ I' : zI, kD I' → kTx tx tn e I' → zFr tGR I I' → post (some (.int 0)) I' L (zR1 q)) : zC G (n + 4) 181 [.ref 43, .ref 41] I L (zR1 q) post := by
  have d0 : ∀ J : zI, zFr tGR I J → zFr tGR I J := fun _ h => h
  obtain ⟨A, hA⟩ : ∃ A : zI, A = zup (zup I 43 3 0) 43 4 0 := ⟨_, rfl⟩
  have fA : zFr tGR I A := by rw [hA]; exact zFr_43 (zFr_43 (zFr_0 _ _))
  have tA : kTx tx tn 1 A := by rw [hA]; exact kTx_43 (kTx_43 ht)
  have DA : kD A := by rw [hA]; exact hd
  have A3 : A 43 3 = 0 := by rw [hA]; rfl
  have A4 : A 43 4 = 0 := by rw [hA]; rfl
  refine zin0 rfl rfl rfl (b181_0 ?_)
  show zCon G (n + 3) 243 zNN zNN [.ref 41, .int 1, .int 3] (zup (zup I 43 3 0) 43 4 0) L (zR1 q) _
  rw [← hA]
  refine k_digit (lo := 1) (hi := 3) rfl rfl (by omega) (by omega) tA (fun w hw hw1 hw3 _ _ tB => ?_) (fun hw => ?_)
  · have eG : tGameG tx tn = (zbd (tNeed tx tn 120 2) fun _ p => zbd (tDig tx tn 49 51 p) fun b p => zbd (tNeed tx tn 107 p) fun _ p => zbd (tDig tx tn 49 51 p) fun c p => tFin tx tn false w b c p) := by
      unfold tGameG
      rw [hw]
      rfl
    refine And.intro (fun z => absurd z (nI_pos (by omega))) (fun _ => k_takes (c := 120) rfl (by decide) (kTx_43 tB) (fun e2 _ tC => ?_) (fun e2 => ?_))
    · have eG2 : tGameG tx tn = (zbd (tDig tx tn 49 51 3) fun b p => zbd (tNeed tx tn 107 p) fun _ p => zbd (tDig tx tn 49 51 p) fun c p => tFin tx tn false w b c p) := by
        rw [eG, tNeed_t e2]
        rfl
      refine And.intro (fun _ => b181_38 (k_digit (lo := 1) (hi := 3) rfl rfl (by omega) (by omega) tC (fun v hv hv1 hv3 _ _ tDD => ?_) (fun hv => ?_))) (fun z => absurd z (by decide))
      · have eG3 : tGameG tx tn = (zbd (tNeed tx tn 107 4) fun _ p => zbd (tDig tx tn 49 51 p) fun c p => tFin tx tn false w v c p) := by
          rw [eG2, hv]
          rfl
        refine And.intro (fun z => absurd z (nI_pos (by omega))) (fun _ => k_takes (c := 107) rfl (by decide) (kTx_43 tDD) (fun e4 _ tE => ?_) (fun e4 => ?_))
        · have eG4 : tGameG tx tn = (zbd (tDig tx tn 49 51 5) fun c p => tFin tx tn false w v c p) := by
            rw [eG3, tNeed_t e4]
            rfl
          refine And.intro (fun _ => b181_66 (k_digit (lo := 1) (hi := 3) rfl rfl (by omega) (by omega) tE (fun u hu hu1 hu3 _ _ tF => ?_) (fun hu => ?_))) (fun z => absurd z (by decide))
          · have eG5 : tGameG tx tn = tFin tx tn false w v u 6 := by
              rw [eG4, hu]
              rfl
            refine And.intro (fun z => absurd z (Int32.not_le.mpr ((nI_ltI (a := 0) (by omega) (by omega)).mpr (by omega)))) (fun _ => ?_)
            refine k_readRest (hh := false) (x := w) (y := v) (z := u) (kTx_43 tF) (fun m p hT I' h5 hk hI hf => ?_) (fun e hT I' hk hI hf => ?_)
            · refine And.intro (fun z => absurd z (by decide)) (fun _ => b181_96 (And.intro rfl (h1 _ p (eG5.trans hT) ⟨(fun z => by cases z), fun _ => ⟨⟨hw1, hw3⟩, ⟨hv1, hv3⟩, hu1, hu3⟩⟩ rfl I' ⟨h5, .inr ⟨rfl, ?_, ?_, ?_, ?_, ?_⟩⟩ ⟨?_, ?_, ?_⟩ hI ?_)))
              · exact (hk 3 (by decide)).trans A3
              · exact (hk 4 (by decide)).trans A4
              · exact hk 0 (by decide)
              · exact hk 1 (by decide)
              · exact hk 2 (by decide)
              · rw [hk 0 (by decide)]; exact kDk_n ⟨hw1, hw3⟩
              · rw [hk 1 (by decide)]; exact kDk_n ⟨hv1, hv3⟩
              · rw [hk 2 (by decide)]; exact kDk_n ⟨hu1, hu3⟩
              · exact zFr_tr (zFr_43 (zFr_41 (zFr_41 (zFr_43 (zFr_41 (zFr_41 (zFr_43 (zFr_41 fA)))))))) hf
            · refine And.intro (fun _ => b181_95 (b181_96 (And.intro rfl (h0 e (eG5.trans hT) I' ⟨?_, ?_, ?_⟩ hI ?_)))) (fun z => absurd rfl z)
              · rw [hk 0 (by decide)]; exact kDk_n ⟨hw1, hw3⟩
              · rw [hk 1 (by decide)]; exact kDk_n ⟨hv1, hv3⟩
              · rw [hk 2 (by decide)]; exact kDk_n ⟨hu1, hu3⟩
              · exact zFr_tr (zFr_43 (zFr_41 (zFr_41 (zFr_43 (zFr_41 (zFr_41 (zFr_43 (zFr_41 fA)))))))) hf
          · refine And.intro (fun _ => b181_95 (b181_96 (And.intro rfl (h0 5 (by rw [eG4, hu]; rfl) _ ⟨kDk_n ⟨hw1, hw3⟩, kDk_n ⟨hv1, hv3⟩, .inl zup_self⟩ (kTx_43 tE) (zFr_43 (zFr_41 (zFr_43 (zFr_41 (zFr_41 (zFr_43 (zFr_41 fA)))))))))) ) (fun z => absurd (show (-1 : Int32) ≤ 0 by decide) z)
        · exact And.intro (fun z => absurd rfl z) (fun _ => b181_64 (And.intro rfl (h0 4 (by rw [eG3, tNeed_f e4]; rfl) _ ⟨kDk_n ⟨hw1, hw3⟩, kDk_n ⟨hv1, hv3⟩, DA.2.2⟩ (kTx_43 tDD) (zFr_43 (zFr_41 (zFr_41 (zFr_43 (zFr_41 fA))))))))
      · exact And.intro (fun _ => b181_64 (And.intro rfl (h0 3 (by rw [eG2, hv]; rfl) _ ⟨kDk_n ⟨hw1, hw3⟩, .inl zup_self, DA.2.2⟩ (kTx_43 tC) (zFr_43 (zFr_41 (zFr_43 (zFr_41 fA))))))) (fun z => absurd (show (-1 : Int32) < 0 by decide) z)
    · exact And.intro (fun z => absurd rfl z) (fun _ => b181_36 (And.intro rfl (h0 2 (by rw [eG, tNeed_f e2]; rfl) _ ⟨kDk_n ⟨hw1, hw3⟩, DA.2.1, DA.2.2⟩ (kTx_43 tB) (zFr_43 (zFr_41 fA)))))
  · exact And.intro (fun _ => b181_36 (And.intro rfl (h0 1 (by unfold tGameG; rw [hw]; rfl) _ ⟨.inl zup_self, DA.2.1, DA.2.2⟩ (kTx_43 tA) (zFr_43 fA)))) (fun z => absurd (show (-1 : Int32) < 0 by decide) z)
theorem k_readHeap (ht : kTx tx tn 1 I) (hd : kD I) (h1 : ∀ r p, tGameN tx tn = (some r, p) → gpOk r → r.1 = true → ∀ I' : zI, kDr r I' → kD I' → kTx tx tn p I' → zFr tGR I I' → post (some (.int 1)) I' L (zR1 q)) (h0 : ∀ e, tGameN tx tn = (none, e) → ∀ I' : zI, kD I' → kTx tx tn e I' → zFr tGR I I' → post (some (.int 0)) I' L (zR1 q)) : zC G (n + 5) 182 [.ref 43, .ref 41] I L (zR1 q) post := by
  refine zin0 rfl rfl rfl (b182_0 (k_number (mo := 20) rfl (by omega) (by omega) ht (fun v p hv hv20 hp1 hp40 tA => ?_) (fun v p hv hv20 hp1 hp40 tA => ?_) (fun hv => ?_)))
  · by_cases v0 : v = 0
    · refine And.intro (fun z => absurd (by rw [v0]; rfl) z) (fun _ => k_stepBack (kTx_43 tA) (fun tB => b182_21 (And.intro (fun _ => b182_37 (And.intro rfl (h0 (p - 1) ?_ _ hd tB (zFr_41 (zFr_43 (zFr_41 (zFr_0 _ _))))))) (fun z => absurd (by rw [v0]; exact (by decide : (nI 0 : Int32) ≤ 0)) z))))
      unfold tGameN
      rw [hv]
      exact if_neg (by omega)
    · have eG : tGameN tx tn = (zbd (tNeed tx tn 47 p) fun _ p => zbd (tDig tx tn 49 51 p) fun b p => tFin tx tn true v b 0 p) := by
        unfold tGameN
        rw [hv]
        exact if_pos (by omega)
      refine And.intro (fun _ => b182_21 ?_) (fun z => absurd ((nI_eq (b := 0) (by omega) (by omega)).mp z) v0)
      refine And.intro (fun z => absurd z (Int32.not_le.mpr ((nI_ltI (a := 0) (by omega) (by omega)).mpr (by omega)))) (fun _ => k_takes (c := 47) rfl (by decide) (kTx_43 tA) (fun e2 _ tC => ?_) (fun e2 => ?_))
      · have eG2 : tGameN tx tn = (zbd (tDig tx tn 49 51 (p + 1)) fun b p => tFin tx tn true v b 0 p) := by
          rw [eG, tNeed_t e2]
          rfl
        refine And.intro (fun _ => b182_39 (k_digit (lo := 1) (hi := 3) rfl rfl (by omega) (by omega) tC (fun u hu hu1 hu3 _ _ tF => ?_) (fun hu => ?_))) (fun z => absurd z (by decide))
        · have eG3 : tGameN tx tn = tFin tx tn true v u 0 (p + 2) := by
            rw [eG2, hu]
            rfl
          refine And.intro (fun z => absurd z (Int32.not_le.mpr ((nI_ltI (a := 0) (by omega) (by omega)).mpr (by omega)))) (fun _ => ?_)
          refine k_readRest (hh := true) (x := v) (y := u) (z := 0) (kTx_43 tF) (fun m p' hT I' h5 hk hI hf => ?_) (fun e hT I' hk hI hf => ?_)
          · refine And.intro (fun z => absurd z (by decide)) (fun _ => b182_69 (And.intro rfl (h1 _ p' (eG3.trans hT) ⟨fun _ => ⟨(show 1 ≤ v ∧ v ≤ 20 by omega), hu1, hu3⟩, (fun z => by cases z)⟩ rfl I' ⟨h5, .inl ⟨rfl, ?_, ?_⟩⟩ ⟨?_, ?_, ?_⟩ hI ?_)))
            · exact hk 3 (by decide)
            · exact hk 4 (by decide)
            · rw [hk 0 (by decide)]; exact hd.1
            · rw [hk 1 (by decide)]; exact hd.2.1
            · rw [hk 2 (by decide)]; exact hd.2.2
            · exact zFr_tr (zFr_43 (zFr_41 (zFr_41 (zFr_43 (zFr_41 (zFr_0 _ _)))))) hf
          · refine And.intro (fun _ => b182_68 (b182_69 (And.intro rfl (h0 e (eG3.trans hT) I' ⟨?_, ?_, ?_⟩ hI ?_)))) (fun z => absurd rfl z)
            · rw [hk 0 (by decide)]; exact hd.1
            · rw [hk 1 (by decide)]; exact hd.2.1
            · rw [hk 2 (by decide)]; exact hd.2.2
            · exact zFr_tr (zFr_43 (zFr_41 (zFr_41 (zFr_43 (zFr_41 (zFr_0 _ _)))))) hf
        · exact And.intro (fun _ => b182_68 (b182_69 (And.intro rfl (h0 (p + 1) (by rw [eG2, hu]; rfl) _ hd (kTx_43 tC) (zFr_43 (zFr_41 (zFr_43 (zFr_41 (zFr_0 _ _))))))))) (fun z => absurd (show (-1 : Int32) ≤ 0 by decide) z)
      · exact And.intro (fun z => absurd rfl z) (fun _ => b182_37 (And.intro rfl (h0 p (by rw [eG, tNeed_f e2]; rfl) _ hd (kTx_43 tA) (zFr_43 (zFr_41 (zFr_0 _ _))))))
  · refine And.intro (fun _ => b182_21 ?_) (fun z => absurd z (show ¬ (-1 : Int32) = 0 by decide))
    refine And.intro (fun _ => b182_37 (And.intro rfl (h0 (p - 1) ?_ _ hd (kTx_43 tA) (zFr_43 (zFr_41 (zFr_0 _ _)))))) (fun z => absurd (show (-1 : Int32) ≤ 0 by decide) z)
    unfold tGameN
    rw [hv]
    exact if_neg (by omega)
  · refine And.intro (fun _ => b182_21 ?_) (fun z => absurd z (show ¬ (-1 : Int32) = 0 by decide))
    refine And.intro (fun _ => b182_37 (And.intro rfl (h0 1 ?_ _ hd (kTx_43 ht) (zFr_43 (zFr_0 _ _))))) (fun z => absurd (show (-1 : Int32) ≤ 0 by decide) z)
    unfold tGameN
    rw [hv]
    rfl
theorem k_readGame (ht : kTx tx tn 0 I) (hd : kD I) (h1 : ∀ r p, tGame tx tn = (some r, p) → gpOk r → ∀ I' : zI, kDr r I' → kD I' → kTx tx tn p I' → zFr tGR I I' → post (some (.int 1)) I' L (zR1 q)) (h0 : ∀ e, tGame tx tn = (none, e) → ∀ I' : zI, kD I' → kTx tx tn e I' → zFr tGR I I' → post (some (.int 0)) I' L (zR1 q)) : zC G (n + 6) 180 [.ref 43, .ref 41] I L (zR1 q) post := by
  refine zin0 rfl rfl rfl (b180_0 (k_takes (c := 110) rfl (by decide) ht (fun e _ tA => ?_) (fun e => ?_)))
  · have eG : tGame tx tn = tGameN tx tn := if_pos e
    refine And.intro (fun z => absurd z (by decide)) (fun _ => k_readHeap tA hd (fun r p hr hok _ I' a1 a2 a3 a4 => And.intro rfl (h1 r p (eG.trans hr) hok I' a1 a2 a3 (zFr_tr (zFr_41 (zFr_0 _ _)) a4))) (fun e2 hr I' a2 a3 a4 => And.intro rfl (h0 e2 (eG.trans hr) I' a2 a3 (zFr_tr (zFr_41 (zFr_0 _ _)) a4))))
  · refine And.intro (fun _ => b180_15 (k_takes (c := 103) rfl (by decide) ht (fun e2 _ tA => ?_) (fun e2 => ?_))) (fun z => absurd rfl z)
    · have eG : tGame tx tn = tGameG tx tn := by unfold tGame; rw [if_neg e, if_pos e2]
      refine And.intro (fun z => absurd z (by decide)) (fun _ => k_readBoard tA hd (fun r p hr hok _ I' a1 a2 a3 a4 => ?_) (fun e3 hr I' a2 a3 a4 => ?_))
      · exact And.intro (fun z => absurd z (by decide)) (fun _ => b180_37 (And.intro rfl (h1 r p (eG.trans hr) hok I' a1 a2 a3 (zFr_tr (zFr_41 (zFr_0 _ _)) a4))))
      · exact And.intro (fun _ => b180_36 (b180_37 (And.intro rfl (h0 e3 (eG.trans hr) I' a2 a3 (zFr_tr (zFr_41 (zFr_0 _ _)) a4))))) (fun z => absurd rfl z)
    · refine And.intro (fun _ => b180_36 (b180_37 (And.intro rfl (h0 0 ?_ I hd ht (zFr_0 _ _))))) (fun z => absurd rfl z)
      unfold tGame
      rw [if_neg e, if_neg e2]
end
