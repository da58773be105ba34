-- ===== the reference: counting; reading texts =====
section
variable {G : zG} {n : Nat} {I : zI} {L : zL} {q : zq} {post : zPo} {g : zg} {c : sC} {w : uW} {fr : Nat → Nat} {f nr nf : Nat} {F : zfo} {rl : zrl} {ru : Option Nat} {tx : Nat → Nat} {tn : Nat} {en : Nat → Int32}
theorem c_count {x : Int32} {v : Nat → Int32} (hin : cAll c) (hc : mC c I) (he : mE en I) (v0 : v 0 = nI (10000 - c.2.2.1 - c.2.2.2.1)) (v1 : v 1 = nI c.2.2.1) (v2 : v 2 = nI c.2.2.2.1) (v3 : v 3 = nI (sCO c none)) (v4 : v 4 = nI (sCO c (some 0))) (v5 : v 5 = nI (sCO c (some 1))) (v6 : v 6 = en 0 + en 1 + en 2) (v7 : v 7 = en 2) (v8 : v 8 = en 1) (v9 : v 9 = en 0) (v10 : v 10 = en 3) (v11 : v 11 = I 0 18) (v12 : v 12 = I 0 23) (v13 : v 13 = I 0 22) (v14 : v 14 = I 0 8) (v15 : v 15 = I 0 31) (v16 : v 16 = I 0 33) (h : post (some (.int (sCountV x v))) (zup I 0 34 0) L (zR1 q)) : zC G (n + 2) 82 [.ref 0, .int x] I L (zR1 q) post := by
  have hc' := mC_34 (v := 0) hc
  have hbd := cAll_bd hin (k := 0) (by omega)
  have hsum : c.2.2.1 + c.2.2.2.1 ≤ 10000 := by unfold cAll at hin; omega
  have he' : ∀ k, k < 4 → zup I 0 34 0 15 k = en k := fun k hk => by rw [zup_ne (by decide)]; exact he k hk
  have hv : ∀ k : Nat, k ≤ 16 → x.toInt = 0 + (k : Int) → sCountV x v = v k := by
    intro k hk hx
    have e : x = nI k := Int32.toInt_inj.mp (by rw [hx, nI_toInt (by omega)]; omega)
    subst e
    unfold sCountV
    rw [if_pos ⟨nI_pos' (by omega), (nI_leI (b := 16) (by omega) (by decide)).mpr hk⟩, nI_clamp (by omega)]
  have vin : ∀ k, k < 4 → vp_in (nI k) 4 := fun k hk => vp_in_nI hk (by decide)
  refine zin0 rfl rfl rfl (b82_0 (And.intro (fun z => b82_200 ?_) (fun k off hk hx => ?_)))
  · have e : sCountV x v = -1 := by
      unfold sCountV
      rw [if_neg]
      rintro ⟨a, b⟩
      have a := Int32.le_iff_toInt_le.mp a
      have b := Int32.le_iff_toInt_le.mp b
      rw [show (0 : Int32).toInt = 0 from by decide] at a
      rw [show (16 : Int32).toInt = 16 from by decide] at b
      omega
    rw [e] at h
    exact h
  · match k, hk with
    | 0, hk =>
      cases hk
      rw [hv 0 (by omega) hx, v0] at h
      exact b82_88 (c_inBoxes hc' hsum h)
    | 1, hk =>
      cases hk
      rw [hv 1 (by omega) hx, v1, ← show zup I 0 34 0 0 14 = nI c.2.2.1 from hc.2.2.1] at h
      exact b82_93 h
    | 2, hk =>
      cases hk
      rw [hv 2 (by omega) hx, v2, ← show zup I 0 34 0 0 15 = nI c.2.2.2.1 from hc.2.2.2.1] at h
      exact b82_98 h
    | 3, hk =>
      cases hk
      rw [hv 3 (by omega) hx, v3] at h
      exact b82_103 (c_countOpened (mv := none) (fun v hv => by cases hv) hin hc' h)
    | 4, hk =>
      cases hk
      rw [hv 4 (by omega) hx, v4] at h
      exact b82_109 (c_countOpened (mv := some 0) (fun v hv => by injection hv with hv; omega) hin hc' h)
    | 5, hk =>
      cases hk
      rw [hv 5 (by omega) hx, v5] at h
      exact b82_115 (c_countOpened (mv := some 1) (fun v hv => by injection hv with hv; omega) hin hc' h)
    | 6, hk =>
      cases hk
      rw [hv 6 (by omega) hx, v6, ← he' 0 (by omega), ← he' 1 (by omega), ← he' 2 (by omega)] at h
      exact b82_121 (And.intro (vin 0 (by omega)) (And.intro (vin 1 (by omega)) (And.intro (vin 2 (by omega)) h)))
    | 7, hk =>
      cases hk
      rw [hv 7 (by omega) hx, v7, ← he' 2 (by omega)] at h
      exact b82_142 (And.intro (vin 2 (by omega)) h)
    | 8, hk =>
      cases hk
      rw [hv 8 (by omega) hx, v8, ← he' 1 (by omega)] at h
      exact b82_149 (And.intro (vin 1 (by omega)) h)
    | 9, hk =>
      cases hk
      rw [hv 9 (by omega) hx, v9, ← he' 0 (by omega)] at h
      exact b82_156 (And.intro (vin 0 (by omega)) h)
    | 10, hk =>
      cases hk
      rw [hv 10 (by omega) hx, v10, ← he' 3 (by omega)] at h
      exact b82_163 (And.intro (vin 3 (by omega)) h)
    | 11, hk =>
      cases hk
      rw [hv 11 (by omega) hx, v11] at h
      exact b82_170 h
    | 12, hk =>
      cases hk
      rw [hv 12 (by omega) hx, v12] at h
      exact b82_175 h
    | 13, hk =>
      cases hk
      rw [hv 13 (by omega) hx, v13] at h
      exact b82_180 h
    | 14, hk =>
      cases hk
      rw [hv 14 (by omega) hx, v14] at h
      exact b82_185 h
    | 15, hk =>
      cases hk
      rw [hv 15 (by omega) hx, v15] at h
      exact b82_190 h
    | 16, hk =>
      cases hk
      rw [hv 16 (by omega) hx, v16] at h
      exact b82_195 h
    | k + 17, hk => cases hk
end
/-- the sign at a place that is read -/
def tH (tx : Nat → Nat) (n a : Nat) : Option Nat := if a < n ∧ a < 40 then some (tx a) else none
abbrev zpr (α : Type) : Type := Option α × Nat
def zbd {α β : Type} (p : zpr α) (f : α → Nat → zpr β) : zpr β := match p with
  | (some v, a) => f v a
  | (none, e) => (none, e)
def tDig (tx : Nat → Nat) (n lo hi a : Nat) : zpr Nat := match tH tx n a with
  | some b => if lo ≤ b ∧ b ≤ hi then (some (b - 48), a + 1) else (none, a)
  | none => (none, a)
def tNum (tx : Nat → Nat) (n a : Nat) : zpr Nat := zbd (tDig tx n 48 57 a) fun d a1 => match tH tx n a1 with
  | some b => if 48 ≤ b ∧ b ≤ 57 then (some (10 * d + (b - 48)), a1 + 1) else (some d, a1)
  | none => (some d, a1)
def tNeed (tx : Nat → Nat) (n c a : Nat) : zpr Nat := if tH tx n a = some c then (some 0, a + 1) else (none, a)
def tEnd {α : Type} (n : Nat) (v : α) (a : Nat) : zpr α := if a < n then (none, a) else (some v, a)
theorem zby8_c : ∀ b, b < 256 → ∀ c, c < 128 → (zby8 b = nI c ↔ b = c) := by decide +kernel
theorem zby8_in : ∀ b, b < 256 → ∀ lo, lo < 128 → (nI lo ≤ zby8 b ↔ lo ≤ b ∧ b < 128) := by decide +kernel
theorem zby8_le : ∀ b, b < 256 → ∀ hi, hi < 128 → (zby8 b ≤ nI hi ↔ b ≤ hi ∨ 128 ≤ b) := by decide +kernel
theorem zby8_lo : ∀ b, b < 128 → zby8 b = nI b := by decide +kernel
section
variable {G : zG} {n : Nat} {I : zI} {L : zL} {q : zq} {post : zPo} {tx : Nat → Nat} {tn a : Nat}
/-- while a text is read -/
def mPr (tx : Nat → Nat) (tn a : Nat) (wr : Option Nat) (I : zI) : Prop := I 0 39 = nI tn ∧ tn ≤ 60 ∧ I 0 40 = nI a ∧ a ≤ 60 ∧ I 0 41 = zon wr ∧ (∀ e, wr = some e → e ≤ 60) ∧ ∀ j, j < tn → I 16 j = zby8 (tx j) ∧ tx j < 256
def tPr (o k : Nat) : Bool := Nat.beq o 0 && (Nat.beq k 40 || Nat.beq k 41)
def tHv (tx : Nat → Nat) (tn a : Nat) : Int32 := match tH tx tn a with
  | some b => zby8 b
  | none => -1
theorem tH_lt {wr : Option Nat} {b : Nat} (h : mPr tx tn a wr I) (hb : tH tx tn a = some b) : b < 256 ∧ a < tn ∧ a < 40 := by
  unfold tH at hb
  split at hb
  · next z =>
    injection hb with hb
    subst hb
    exact ⟨(h.2.2.2.2.2.2 a z.1).2, z⟩
  · cases hb
theorem mPr_at {wr : Option Nat} {a' : Nat} (h : mPr tx tn a wr I) (ha : a' ≤ 60) : mPr tx tn a' wr (zup I 0 40 (nI a')) := ⟨h.1, h.2.1, zup_self, ha, h.2.2.2.2.1, h.2.2.2.2.2.1, fun j hj => by rw [zup_ne (by decide)]; exact h.2.2.2.2.2.2 j hj⟩
theorem mPr_wr {wr : Option Nat} {e : Nat} (h : mPr tx tn a wr I) (he : e ≤ 60) : mPr tx tn a (some e) (zup I 0 41 (nI e)) := ⟨h.1, h.2.1, h.2.2.1, h.2.2.2.1, zup_self, fun x hx => by injection hx with hx; omega, fun j hj => by rw [zup_ne (by decide)]; exact h.2.2.2.2.2.2 j hj⟩
theorem c_here {wr : Option Nat} (hp : mPr tx tn a wr I) (h : post (some (.int (tHv tx tn a))) I L (zR1 q)) : zC G (n + 1) 45 [.ref 0] I L (zR1 q) post := by
  obtain ⟨h39, hn, h40, ha, h41, hw, hb⟩ := id hp
  have no : ¬ (a < tn ∧ a < 40) → tHv tx tn a = -1 := fun z => by unfold tHv tH; rw [if_neg z]
  refine zin0 rfl rfl rfl (b45_0 (pk_le tn a (fun z => b45_32 (b45_33 ?_)) (fun z => ?_) h39 h40 (by omega) (by omega)))
  · rw [no (by omega)] at h
    exact h
  · refine pk_le 40 a (fun z2 => b45_32 (b45_33 ?_)) (fun z2 => ?_) rfl h40 (by omega) (by omega)
    · rw [no (by omega)] at h
      exact h
    · have ec : (I 0 40).toNatClampNeg = a := by rw [h40, nI_clamp (by omega)]
      refine And.intro (by rw [h40]; exact vp_in_nI (by omega) (by decide)) (b45_33 ?_)
      have e : I 16 (I 0 40).toNatClampNeg = tHv tx tn a := by
        rw [ec, (hb a z).1]
        unfold tHv tH
        rw [if_pos ⟨z, z2⟩]
      rw [← e] at h
      exact h
theorem tHv_eq {wr : Option Nat} (hp : mPr tx tn a wr I) {c : Nat} (hc : c < 128) : tHv tx tn a = nI c ↔ tH tx tn a = some c := by
  unfold tHv
  cases q2 : tH tx tn a with
  | none =>
    refine ⟨fun z => absurd z.symm (zon_ne (by omega)), fun z => by cases z⟩
  | some b =>
    have hb := (tH_lt hp q2).1
    dsimp only
    rw [zby8_c b hb c hc]
    exact ⟨fun z => by rw [z], fun z => by injection z⟩
theorem tHv_in {wr : Option Nat} (hp : mPr tx tn a wr I) {lo hi : Nat} (hlo : lo < 128) (hhi : hi < 128) : decide (nI lo ≤ tHv tx tn a ∧ tHv tx tn a ≤ nI hi) = match tH tx tn a with
    | some b => decide (lo ≤ b ∧ b ≤ hi)
    | none => false := by
  unfold tHv
  cases q2 : tH tx tn a with
  | none =>
    dsimp only
    refine decide_eq_false fun z => ?_
    have := Int32.le_trans (nI_pos' (n := lo) (by omega)) z.1
    exact absurd this (by decide)
  | some b =>
    have hb := (tH_lt hp q2).1
    dsimp only
    refine decide_eq_decide.mpr ?_
    rw [zby8_in b hb lo hlo, zby8_le b hb hi hhi]
    omega
theorem c_passes {wr : Option Nat} {c : Nat} {ci : Int32} (hci : ci = nI c) (hp : mPr tx tn a wr I) (hc : c < 128) (h1 : tH tx tn a = some c → post (some (.int 1)) (zup I 0 40 (nI (a + 1))) L (zR1 q)) (h0 : tH tx tn a ≠ some c → post (some (.int 0)) I L (zR1 q)) : zC G (n + 2) 46 [.ref 0, .int ci] I L (zR1 q) post := by
  subst hci
  have e := tHv_eq hp hc
  have h40 : I 0 40 = nI a := hp.2.2.1
  refine zin0 rfl rfl rfl (b46_0 (c_here hp ?_))
  show (tHv tx tn a = nI c → _) ∧ (¬ tHv tx tn a = nI c → _)
  refine And.intro (fun z => b46_10 (And.intro rfl (And.intro rfl ?_))) (fun z => And.intro rfl (h0 fun w => z (e.mpr w)))
  have qq := h1 (e.mp z)
  rw [← nI_1, ← h40] at qq
  exact qq
theorem c_fine {wr : Option Nat} (hp : mPr tx tn a wr I) (h : post (some (.int (zbo wr.isNone))) I L (zR1 q)) : zC G (n + 1) 47 [.ref 0] I L (zR1 q) post := by
  obtain ⟨h39, hn, h40, ha, h41, hw, hb⟩ := id hp
  refine zin0 rfl rfl rfl (b47_0 ?_)
  show (¬ I 0 41 = -1 → _) ∧ (I 0 41 = -1 → _)
  rw [h41]
  cases wr with
  | none => exact And.intro (fun z => absurd rfl z) (fun _ => b47_13 (And.intro rfl h))
  | some e => exact And.intro (fun _ => b47_12 (b47_13 (And.intro rfl h))) (fun z => absurd z (zon_ne (by have := hw e rfl; omega)))
theorem c_isWrong {e : Nat} {x : Int32} (hx : x = nI e) (hp : mPr tx tn a none I) (h : post none (zup I 0 41 (nI e)) L (zR1 q)) : zC G (n + 2) 48 [.ref 0, .int x] I L (zR1 q) post := by
  subst hx
  exact zin0 rfl rfl rfl (b48_0 (c_fine hp (And.intro (fun z => absurd z (by decide)) (fun _ => b48_12 h))))
theorem c_isWrong1 {e : Nat} {x : Int32} (hp : mPr tx tn a (some e) I) (h : post none I L (zR1 q)) : zC G (n + 2) 48 [.ref 0, .int x] I L (zR1 q) post := zin0 rfl rfl rfl (b48_0 (c_fine hp (And.intro (fun _ => b48_12 h) (fun z => absurd rfl z))))
theorem c_digit {lo hi : Nat} {li hhi : Int32} (hl : li = nI lo) (hh : hhi = nI hi) (hlo : 48 ≤ lo ∧ lo < 128) (hhi2 : hi < 128) (hp : mPr tx tn a none I) (h1 : ∀ d, tDig tx tn lo hi a = (some d, a + 1) → d ≤ hi - 48 → a < 40 → post (some (.int (nI d))) (zup I 0 40 (nI (a + 1))) L (zR1 q)) (h0 : tDig tx tn lo hi a = (none, a) → post (some (.int 0)) (zup I 0 41 (nI a)) L (zR1 q)) : zC G (n + 3) 49 [.ref 0, .int li, .int hhi] I L (zR1 q) post := by
  subst hl hh
  have h40 : I 0 40 = nI a := hp.2.2.1
  have ein := tHv_in hp hlo.2 hhi2
  refine zin0 rfl rfl rfl (b49_0 (c_here hp (c_in ?_)))
  rw [ein]
  cases q2 : tH tx tn a with
  | none =>
    have e : tDig tx tn lo hi a = (none, a) := by unfold tDig; rw [q2]
    exact And.intro (fun z => absurd rfl z) (fun _ => c_isWrong h40 hp (h0 e))
  | some b =>
    obtain ⟨hb, hatn, ha40⟩ := tH_lt hp q2
    dsimp only
    by_cases z : lo ≤ b ∧ b ≤ hi
    · rw [decide_eq_true z]
      have e : tDig tx tn lo hi a = (some (b - 48), a + 1) := by unfold tDig; rw [q2]; dsimp only; rw [if_pos z]
      refine And.intro (fun _ => b49_24 (And.intro rfl ?_)) (fun w => absurd w (by decide))
      have qq := h1 (b - 48) e (by omega) ha40
      have ev : tHv tx tn a - 48 = nI (b - 48) := by
        unfold tHv
        rw [q2]
        dsimp only
        rw [zby8_lo b (by omega)]
        exact pk_sub (b := 48) (by omega)
      rw [← ev, ← nI_1, ← h40] at qq
      exact qq
    · rw [decide_eq_false z]
      have e : tDig tx tn lo hi a = (none, a) := by unfold tDig; rw [q2]; dsimp only; rw [if_neg z]
      exact And.intro (fun w => absurd rfl w) (fun _ => c_isWrong h40 hp (h0 e))
theorem c_need {c : Nat} {ci : Int32} (hci : ci = nI c) (hc : c < 128) (hp : mPr tx tn a none I) (h1 : tNeed tx tn c a = (some 0, a + 1) → a < 40 → post none (zup I 0 40 (nI (a + 1))) L (zR1 q)) (h0 : tNeed tx tn c a = (none, a) → post none (zup I 0 41 (nI a)) L (zR1 q)) : zC G (n + 3) 50 [.ref 0, .int ci] I L (zR1 q) post := by
  have h40 : I 0 40 = nI a := hp.2.2.1
  refine zin0 rfl rfl rfl (b50_0 (c_fine hp (And.intro (fun z => absurd z (by decide)) (fun _ => ?_))))
  refine c_passes hci hp hc (fun z => And.intro (fun _ => b50_23 (h1 (by unfold tNeed; rw [if_pos z]) (tH_lt hp z).2.2)) (fun w => absurd w (by decide))) (fun z => And.intro (fun w => absurd rfl w) (fun _ => c_isWrong h40 hp (b50_23 (h0 (by unfold tNeed; rw [if_neg z])))))
theorem c_need1 {ci : Int32} {e : Nat} (hp : mPr tx tn a (some e) I) (h : post none I L (zR1 q)) : zC G (n + 2) 50 [.ref 0, .int ci] I L (zR1 q) post := zin0 rfl rfl rfl (b50_0 (c_fine hp (And.intro (fun _ => b50_23 h) (fun z => absurd rfl z))))
theorem c_number (hp : mPr tx tn a none I) (h1 : ∀ v a', tNum tx tn a = (some v, a') → v ≤ 99 → a < a' → a' ≤ 40 → post (some (.int (nI v))) (zup I 0 40 (nI a')) L (zR1 q)) (h0 : tNum tx tn a = (none, a) → post (some (.int 0)) (zup I 0 41 (nI a)) L (zR1 q)) : zC G (n + 4) 51 [.ref 0] I L (zR1 q) post := by
  refine zin0 rfl rfl rfl (b51_0 (c_digit (lo := 48) (hi := 57) rfl rfl (by decide) (by decide) hp (fun d hd hd9 ha40 => ?_) (fun hd => ?_)))
  · have hp1 := mPr_at hp (a' := a + 1) (by omega)
    have en : tNum tx tn a = match tH tx tn (a + 1) with
        | some b => if 48 ≤ b ∧ b ≤ 57 then (some (10 * d + (b - 48)), a + 1 + 1) else (some d, a + 1)
        | none => (some d, a + 1) := by unfold tNum; rw [hd]; rfl
    refine c_fine hp1 (And.intro (fun z => absurd z (by decide)) (fun _ => c_here hp1 ?_))
    show zC G (n + 3) 2 [.int (tHv tx tn (a + 1)), .int (nI 48), .int (nI 57)] (zup I 0 40 (nI (a + 1))) L (zR1 q) _
    refine c_in ?_
    rw [tHv_in hp1 (by decide) (by decide)]
    cases q2 : tH tx tn (a + 1) with
    | none =>
      rw [q2] at en
      exact And.intro (fun _ => b51_44 (h1 d (a + 1) en (by omega) (by omega) (by omega))) (fun z => absurd rfl z)
    | some b =>
      rw [q2] at en
      obtain ⟨hb, hatn, ha40'⟩ := tH_lt hp1 q2
      dsimp only at en ⊢
      by_cases z : 48 ≤ b ∧ b ≤ 57
      · rw [decide_eq_true z]
        rw [if_pos z] at en
        refine And.intro (fun w => absurd w (by decide)) (fun _ => c_digit (lo := 48) (hi := 57) rfl rfl (by decide) (by decide) hp1 (fun d2 hd2 hd29 _ => b51_44 ?_) (fun hd2 => ?_))
        · have e2 : d2 = b - 48 := by
            unfold tDig at hd2
            rw [q2] at hd2
            dsimp only at hd2
            rw [if_pos z] at hd2
            injection hd2 with x1 _
            injection x1 with x1
            exact x1.symm
          subst e2
          have qq := h1 _ _ en (by omega) (by omega) (by omega)
          have ev : (10 : Int32) * nI d + nI (b - 48) = nI (10 * d + (b - 48)) := by rw [show (10 : Int32) = nI 10 from rfl, pk_mul, nI_add]
          rw [zup_zup]
          rw [← ev] at qq
          exact qq
        · unfold tDig at hd2
          rw [q2] at hd2
          dsimp only at hd2
          rw [if_pos z] at hd2
          injection hd2 with x1 _
          cases x1
      · rw [decide_eq_false z]
        rw [if_neg z] at en
        exact And.intro (fun _ => b51_44 (h1 d (a + 1) en (by omega) (by omega) (by omega))) (fun w => absurd rfl w)
  · have hp1 := mPr_wr hp (e := a) hp.2.2.2.1
    have en : tNum tx tn a = (none, a) := by unfold tNum; rw [hd]; rfl
    exact c_fine hp1 (And.intro (fun _ => b51_44 (h0 en)) (fun z => absurd rfl z))
theorem c_ends (hp : mPr tx tn a none I) (h1 : a < tn → post (some (.int (-1 - nI a))) (zup I 0 41 (nI a)) L (zR1 q)) (h0 : tn ≤ a → post (some (.int 0)) I L (zR1 q)) : zC G (n + 3) 52 [.ref 0] I L (zR1 q) post := by
  obtain ⟨h39, hn, h40, ha, h41, hw, hb⟩ := id hp
  refine zin0 rfl rfl rfl (b52_0 (c_fine hp (And.intro (fun z => absurd z (by decide)) (fun _ => ?_))))
  refine pk_le tn a (fun z => b52_26 (c_fine hp (And.intro (fun w => absurd w (by decide)) (fun _ => b52_43 (h0 z))))) (fun z => ?_) h39 h40 (by omega) (by omega)
  refine c_isWrong h40 hp (b52_26 (c_fine (mPr_wr hp ha) (And.intro (fun _ => b52_37 (b52_43 ?_)) (fun w => absurd rfl w))))
  exact h1 z
theorem c_ends1 {e : Nat} (hp : mPr tx tn a (some e) I) (h : post (some (.int (-1 - nI e))) I L (zR1 q)) : zC G (n + 3) 52 [.ref 0] I L (zR1 q) post := by
  have h41 : I 0 41 = nI e := hp.2.2.2.2.1
  rw [← h41] at h
  exact zin0 rfl rfl rfl (b52_0 (c_fine hp (And.intro (fun _ => b52_26 (c_fine hp (And.intro (fun _ => b52_37 (b52_43 h)) (fun w => absurd rfl w)))) (fun z => absurd rfl z))))
theorem c_startText (ht : mTx tx tn I) (h : ∀ I' : zI, mPr tx tn 0 none I' → I' 0 31 = 0 → (∀ o k, ¬ (o = 0 ∧ (k = 31 ∨ k = 39 ∨ k = 40 ∨ k = 41)) → I' o k = I o k) → post none I' L (zR1 q)) : zC G (n + 1) 44 [.ref 0] I L (zR1 q) post := by
  obtain ⟨h31, hn, hb⟩ := ht
  refine zin0 rfl rfl rfl (b44_0 ?_)
  refine h (zup (zup (zup (zup I 0 39 (I 0 31)) 0 31 0) 0 40 0) 0 41 (-1)) ⟨h31, hn, rfl, Nat.zero_le _, rfl, (fun e he => by cases he), fun j hj => ?_⟩ rfl (fun o k hh => ?_)
  · rw [zup_ne (by decide), zup_ne (by decide), zup_ne (by decide), zup_ne (by decide)]
    exact hb j hj
  · unfold zup
    by_cases d : o = 0
    · rw [if_pos d, if_neg (fun x => hh ⟨d, by omega⟩), if_pos d, if_neg (fun x => hh ⟨d, by omega⟩), if_pos d, if_neg (fun x => hh ⟨d, by omega⟩), if_pos d, if_neg (fun x => hh ⟨d, by omega⟩)]
    · rw [if_neg d, if_neg d, if_neg d, if_neg d]
end
