-- ===== the class: the text =====
theorem zsg_s : ∀ i, i < 4 → ((((24 : Int32) - 8 * nI i).toUInt32 &&& Int32.toUInt32 31).toBitVec % 32).toNat = 8 * (3 - i) := by decide +kernel
theorem zsg (v : Int32) {i : Nat} (hi : i < 4) : ((v.toUInt32 >>> (((24 : Int32) - 8 * nI i).toUInt32 &&& Int32.toUInt32 31)).toInt32 &&& 255) = nI (sBy v (3 - i)) := by
  rw [pk_and _ (m := 255) 8 rfl, pk_ushr v _ (8 * (3 - i)) (zsg_s i hi)]
  rfl
theorem sBy_lt (v : Int32) (k : Nat) : sBy v k < 256 := Nat.mod_lt _ (by decide)
/-- the class's text, and how far it is read -/
def kTx (tx : Nat → Nat) (n a : Nat) (I : zI) : Prop := I 41 1 = nI n ∧ n ≤ 60 ∧ I 41 2 = nI a ∧ a ≤ n ∧ ∀ j, j < n → I 42 j = nI (tx j) ∧ tx j < 256
theorem kTx_at {tx : Nat → Nat} {n a b : Nat} {I : zI} (h : kTx tx n a I) (hb : b ≤ n) : kTx tx n b (zup I 41 2 (nI b)) := ⟨h.1, h.2.1, zup_self, hb, fun j hj => by rw [zup_ne (by decide)]; exact h.2.2.2.2 j hj⟩
theorem kTx_of {tx : Nat → Nat} {n a : Nat} {I I' : zI} (h : kTx tx n a I) (h1 : I' 41 = I 41) (h2 : I' 42 = I 42) : kTx tx n a I' := by
  obtain ⟨a1, a2, a3, a4, a5⟩ := h
  exact ⟨by rw [h1]; exact a1, a2, by rw [h1]; exact a3, a4, fun j hj => by rw [h2]; exact a5 j hj⟩
def tXt (o k : Nat) : Bool := Nat.beq o 41 || Nat.beq o 42
def tAt (o k : Nat) : Bool := Nat.beq o 41 && Nat.beq k 2
/-- the sign read next -/
def sCur (tx : Nat → Nat) (n a : Nat) : Int32 := zon (tH tx n a)
theorem tH_s {tx : Nat → Nat} {n a b : Nat} (h : tH tx n a = some b) : a < n ∧ a < 40 ∧ b = tx a := by
  unfold tH at h
  split at h
  · injection h with h
    omega
  · cases h
section
variable {G : zG} {n : Nat} {I : zI} {L : zL} {q : zq} {post : zPo} {tx : Nat → Nat} {tn a : Nat}
theorem sCur_eq (ht : kTx tx tn a I) {c : Nat} (hc : c < 128) : sCur tx tn a = nI c ↔ tH tx tn a = some c := by
  unfold sCur
  cases e : tH tx tn a with
  | none => exact ⟨fun z => absurd z.symm (zon_ne (by omega)), fun z => by cases z⟩
  | some b =>
    obtain ⟨h1, h2, h3⟩ := tH_s e
    have hb := (ht.2.2.2.2 a h1).2
    show nI b = nI c ↔ _
    rw [nI_eq (by omega) (by omega)]
    exact ⟨fun z => by rw [z], fun z => by injection z⟩
theorem k_append {v : Int32} (ht : kTx tx tn a I) (h1 : tn + 4 ≤ 60 → ∀ I' : zI, kTx (sTxA tx tn v) (tn + 4) a I' → zFr tXt I I' → post (some (.int (nI (tn + 4)))) I' L (zR1 q)) (h0 : 60 < tn + 4 → post (some (.int (-1))) I L (zR1 q)) : zC G (n + 1) 235 [.ref 41, .int v] I L (zR1 q) post := by
  obtain ⟨e1, e2, e3, e4, e5⟩ := ht
  refine zin0 rfl rfl rfl (b235_0 ?_)
  show (I 41 1 < 0 → _) ∧ (¬ I 41 1 < 0 → (I 41 1 + 4 ≤ nI 60 → _) ∧ (¬ I 41 1 + 4 ≤ nI 60 → _))
  have e6 : I 41 1 + 4 = nI (tn + 4) := by rw [e1]; exact nI_add tn 4
  refine And.intro (fun z => by rw [e1] at z; exact absurd z (nI_pos (by omega))) (fun _ => ?_)
  rw [e6]
  refine pk_le (tn + 4) 60 (fun c => ?_) (fun c => b235_21 (h0 c)) rfl rfl (by omega) (by omega)
  have key : ∀ j i, i + j = 4 → ∀ J : zI, (∀ x, x < tn + i → J 42 x = nI (sTxA tx tn v x)) → (∀ o, o ≠ 42 → J o = I o) → zQ G 235 n post 25 [some (.ref 41), some (.int v), some (.int (nI i))] [] J L (zR1 q) := by
    intro j
    induction j with
    | zero =>
      intro i hi J hJ hJo
      have f1 : J 41 1 + 4 = nI (tn + 4) := by rw [hJo 41 (by decide)]; exact e6
      refine b235_25 (pk_le 4 i (fun _ => b235_60 ?_) (fun z => absurd z (by omega)) rfl rfl (by omega) (by omega))
      refine And.intro rfl ?_
      have qq := h1 c (zup J 41 1 (nI (tn + 4))) ⟨zup_self, by omega, by rw [zup_k (by decide), hJo 41 (by decide)]; exact e3, by omega, fun x hx => ⟨by rw [zup_ne (by decide)]; exact hJ x (by omega), ?_⟩⟩ (fun o k ho => ?_)
      · show post (some (.int (zup J 41 1 (J 41 1 + 4) 41 1))) (zup J 41 1 (J 41 1 + 4)) _ _
        rw [zup_self, f1]
        exact qq
      · unfold sTxA
        split
        · exact sBy_lt _ _
        · exact (e5 x (by omega)).2
      · have n41 : o ≠ 41 := fun z => by subst z; cases ho
        have n42 : o ≠ 42 := fun z => by subst z; cases ho
        rw [zup_ne n41, hJo o n42]
    | succ j ih =>
      intro i hi J hJ hJo
      have f1 : J 41 1 + nI i = nI (tn + i) := by rw [hJo 41 (by decide), e1]; exact nI_add tn i
      refine b235_25 (pk_le 4 i (fun z => absurd z (by omega)) (fun _ => And.intro ?_ ?_) rfl rfl (by omega) (by omega))
      · show vp_in (J 41 1 + nI i) 60
        rw [f1]
        exact vp_in_nI (by omega) (by decide)
      · have qq := ih (i + 1) (by omega) (zup J 42 (J 41 1 + nI i).toNatClampNeg ((v.toUInt32 >>> (((24 : Int32) - 8 * nI i).toUInt32 &&& Int32.toUInt32 31)).toInt32 &&& 255)) (fun x hx => ?_) (fun o ho => by rw [zup_ne ho]; exact hJo o ho)
        · rw [← nI_1] at qq
          exact qq
        · rw [f1, nI_clamp (by omega), zup_eq, zsg v (by omega)]
          by_cases d : x = tn + i
          · rw [if_pos d]
            unfold sTxA
            rw [if_pos (by omega), show x - tn = i by omega]
          · rw [if_neg d]
            exact hJ x (by omega)
  refine b235_23 (key 4 0 (by omega) I (fun x hx => ?_) (fun _ _ => rfl))
  unfold sTxA
  rw [if_neg (by omega)]
  exact (e5 x (by omega)).1
theorem k_cutTo {x : Int32} (ht : kTx tx tn 0 I) (h1 : ∀ k, x = nI k → k ≤ tn → ∀ I' : zI, kTx tx k 0 I' → zFr tXt I I' → post (some (.int 1)) I' L (zR1 q)) (h0 : xOut x (tn + 1) → post (some (.int 0)) I L (zR1 q)) : zC G (n + 1) 236 [.ref 41, .int x] I L (zR1 q) post := by
  obtain ⟨e1, e2, e3, e4, e5⟩ := ht
  refine zin0 rfl rfl rfl (b236_0 ?_)
  show (x < 0 → _) ∧ (¬ x < 0 → (x ≤ I 41 1 → _) ∧ (¬ x ≤ I 41 1 → _))
  refine And.intro (fun z => b236_12 (And.intro rfl (h0 (.inl z)))) (fun z => ?_)
  obtain ⟨k, hk, rfl⟩ := nI_of z
  rw [e1]
  refine pk_le k tn (fun c => ?_) (fun c => b236_12 (And.intro rfl (h0 (.inr ((nI_leI (by omega) hk).mpr (by omega)))))) rfl rfl hk (by omega)
  exact b236_14 (And.intro rfl (h1 k rfl c (zup I 41 1 (nI k)) ⟨zup_self, by omega, by rw [zup_k (by decide)]; exact e3, by omega, fun j hj => by rw [zup_ne (by decide)]; exact e5 j (by omega)⟩ (zFr_up (zFr_0 _ _) rfl)))
theorem k_tHeld (ht : kTx tx tn a I) (h : post (some (.int (nI tn))) I L (zR1 q)) : zC G (n + 1) 237 [.ref 41] I L (zR1 q) post := by
  refine zin0 rfl rfl rfl (b237_0 ?_)
  rw [← ht.1] at h
  exact h
theorem k_rewind (ht : kTx tx tn a I) (h : kTx tx tn 0 (zup I 41 2 0) → post none (zup I 41 2 0) L (zR1 q)) : zC G (n + 1) 238 [.ref 41] I L (zR1 q) post := zin0 rfl rfl rfl (b238_0 (h (kTx_at ht (by omega))))
theorem k_clear (ht : kTx tx tn a I) (h : ∀ I' : zI, kTx tx 0 0 I' → zFr tXt I I' → post none I' L (zR1 q)) : zC G (n + 1) 239 [.ref 41] I L (zR1 q) post := zin0 rfl rfl rfl (b239_0 (h (zup (zup I 41 1 0) 41 2 0) ⟨by rw [zup_k (by decide), zup_self]; rfl, by omega, zup_self, by omega, fun j hj => absurd hj (by omega)⟩ (zFr_up (zFr_up (zFr_0 _ _) rfl) rfl)))
theorem k_stepBack (ht : kTx tx tn a I) (h : kTx tx tn (a - 1) (zup I 41 2 (nI (a - 1))) → post none (zup I 41 2 (nI (a - 1))) L (zR1 q)) : zC G (n + 1) 240 [.ref 41] I L (zR1 q) post := by
  have qq := h (kTx_at ht (by have := ht.2.2.2.1; omega))
  obtain ⟨e1, e2, e3, e4, e5⟩ := ht
  refine zin0 rfl rfl rfl (b240_0 ?_)
  show (I 41 2 ≤ 0 → _) ∧ (¬ I 41 2 ≤ 0 → _)
  rw [e3]
  refine pk_le a 0 (fun c => b240_17 ?_) (fun c => And.intro rfl (b240_17 ?_)) rfl rfl (by omega) (by omega)
  · rw [show a - 1 = a by omega, ← e3, zup_id] at qq
    exact qq
  · show post none (zup I 41 2 (I 41 2 - 1)) _ _
    rw [e3, show nI a - 1 = nI (a - 1) from pk_sub (b := 1) c]
    exact qq
theorem k_current (ht : kTx tx tn a I) (h : post (some (.int (sCur tx tn a))) I L (zR1 q)) : zC G (n + 1) 241 [.ref 41] I L (zR1 q) post := by
  obtain ⟨e1, e2, e3, e4, e5⟩ := ht
  refine zin0 rfl rfl rfl (b241_0 ?_)
  show (I 41 2 < 0 → _) ∧ (¬ I 41 2 < 0 → (I 41 1 ≤ I 41 2 → _) ∧ (¬ I 41 1 ≤ I 41 2 → (nI 40 ≤ I 41 2 → _) ∧ (¬ nI 40 ≤ I 41 2 → (nI 60 ≤ I 41 2 → _) ∧ (¬ nI 60 ≤ I 41 2 → vp_in (I 41 2) 60 ∧ _))))
  rw [e3, e1]
  have no : ¬ (a < tn ∧ a < 40) → post (some (.int (-1))) I L (zR1 q) := fun c => by
    unfold sCur tH at h
    rw [if_neg c] at h
    exact h
  refine And.intro (fun z => absurd z (nI_pos (by omega))) (fun _ => pk_le tn a (fun c => b241_51 (b241_52 (no (by omega)))) (fun c => pk_le 40 a (fun c2 => b241_51 (b241_52 (no (by omega)))) (fun c2 => pk_le 60 a (fun z => absurd z (by omega)) (fun _ => And.intro (vp_in_nI (by omega) (by decide)) (b241_52 ?_)) rfl rfl (by omega) (by omega)) rfl rfl (by omega) (by omega)) rfl rfl (by omega) (by omega))
  rw [nI_clamp (by omega), (e5 a c).1]
  unfold sCur tH at h
  rw [if_pos ⟨c, c2⟩] at h
  exact h
theorem k_takes {c : Nat} {ci : Int32} (hci : ci = nI c) (hc : c < 128) (ht : kTx tx tn a I) (h1 : tH tx tn a = some c → a < 40 → kTx tx tn (a + 1) (zup I 41 2 (nI (a + 1))) → post (some (.int 1)) (zup I 41 2 (nI (a + 1))) L (zR1 q)) (h0 : tH tx tn a ≠ some c → post (some (.int 0)) I L (zR1 q)) : zC G (n + 2) 242 [.ref 41, .int ci] I L (zR1 q) post := by
  subst hci
  have he := sCur_eq ht hc
  refine zin0 rfl rfl rfl (b242_0 (k_current ht ?_))
  refine And.intro (fun z => ?_) (fun z => And.intro rfl (h0 fun w => z (he.mpr w)))
  have z' := he.mp z
  have hs := tH_s z'
  refine b242_10 (And.intro rfl (And.intro rfl ?_))
  have qq := h1 z' hs.2.1 (kTx_at ht (by omega))
  rw [← nI_1, ← ht.2.2.1] at qq
  exact qq
theorem k_ended (ht : kTx tx tn a I) (h : post (some (.int (zbo (decide (a = tn))))) I L (zR1 q)) : zC G (n + 1) 245 [.ref 41] I L (zR1 q) post := by
  obtain ⟨e1, e2, e3, e4, e5⟩ := ht
  refine zin0 rfl rfl rfl (b245_0 ?_)
  show (¬ I 41 2 = I 41 1 → _) ∧ (I 41 2 = I 41 1 → _)
  rw [e3, e1]
  refine pk_ne a tn (fun c => b245_15 (b245_16 (And.intro rfl ?_))) (fun c => b245_16 (And.intro rfl ?_)) rfl rfl (by omega) (by omega)
  · rw [decide_eq_false c] at h
    exact h
  · rw [decide_eq_true c] at h
    exact h
theorem k_fault (ht : kTx tx tn a I) (h : post (some (.int (-1 - nI a))) I L (zR1 q)) : zC G (n + 1) 246 [.ref 41] I L (zR1 q) post := by
  refine zin0 rfl rfl rfl (b246_0 ?_)
  rw [← ht.2.2.1] at h
  exact h
theorem zcu {b : Nat} (h : b < 256) (lo hi : Nat) (hl : lo ≤ 9) (hh : hi ≤ 9) : (nI b - 48 < nI lo ↔ b < 48 + lo) ∧ (nI hi < nI b - 48 ↔ 48 + hi < b) := by
  have e : nI b - 48 = iI ((b : Int) - 48) := by rw [← iI_n b, Int32.sub_eq_add_neg, show (-48 : Int32) = iI (-48) from rfl, iI_add]; rfl
  rw [e, ← iI_n lo, ← iI_n hi, iI_lt (by omega) (by omega) (by omega) (by omega), iI_lt (by omega) (by omega) (by omega) (by omega)]
  omega
theorem zcu_v {b : Nat} (h : 48 ≤ b) : nI b - 48 = nI (b - 48) := pk_sub (b := 48) h
theorem k_digit {lo hi : Nat} {li hhi : Int32} (hl : li = nI lo) (hh : hhi = nI hi) (hlo : lo ≤ 9) (hhi2 : hi ≤ 9) (ht : kTx tx tn a I) (h1 : ∀ d, tDig tx tn (48 + lo) (48 + hi) a = (some d, a + 1) → lo ≤ d → d ≤ hi → a < 40 → a < tn → kTx tx tn (a + 1) (zup I 41 2 (nI (a + 1))) → post (some (.int (nI d))) (zup I 41 2 (nI (a + 1))) L (zR1 q)) (h0 : tDig tx tn (48 + lo) (48 + hi) a = (none, a) → post (some (.int (-1))) I L (zR1 q)) : zC G (n + 2) 243 [.ref 41, .int li, .int hhi] I L (zR1 q) post := by
  subst hl hh
  refine zin0 rfl rfl rfl (b243_0 (k_current ht ?_))
  unfold sCur
  cases e : tH tx tn a with
  | none =>
    refine And.intro (fun _ => b243_18 (h0 (by unfold tDig; rw [e]))) (fun z => absurd ?_ z)
    show (-1 : Int32) - 48 < nI lo
    exact Int32.lt_of_lt_of_le (by decide : (-1 : Int32) - 48 < 0) (nI_pos' (by omega))
  | some b =>
    obtain ⟨s1, s2, s3⟩ := tH_s e
    have hb : b < 256 := by rw [s3]; exact (ht.2.2.2.2 a s1).2
    have z1 := zcu hb lo hi hlo hhi2
    show (nI b - 48 < nI lo → _) ∧ (¬ nI b - 48 < nI lo → (nI b - 48 ≤ nI hi → _) ∧ (¬ nI b - 48 ≤ nI hi → _))
    refine And.intro (fun c => b243_18 (h0 ?_)) (fun c => And.intro (fun c2 => ?_) (fun c2 => b243_18 (h0 ?_)))
    · have := z1.1.mp c
      unfold tDig
      rw [e]
      exact if_neg (by omega)
    · have d1 : ¬ b < 48 + lo := fun z => c (z1.1.mpr z)
      have d2 : ¬ 48 + hi < b := fun z => Int32.not_lt.mpr c2 (z1.2.mpr z)
      have qq := h1 (b - 48) (by unfold tDig; rw [e]; exact if_pos (by omega)) (by omega) (by omega) s2 s1 (kTx_at ht (by omega))
      refine b243_20 (And.intro rfl ?_)
      rw [← nI_1, ← ht.2.2.1, ← zcu_v (b := b) (by omega)] at qq
      exact qq
    · have := z1.2.mp (Int32.not_le.mp c2)
      unfold tDig
      rw [e]
      exact if_neg (by omega)
end
