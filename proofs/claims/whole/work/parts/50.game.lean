-- ===== the reference: a game told =====
abbrev zgp : Type := Bool × Nat × Nat × Nat × Bool
def tFin (tx : Nat → Nat) (n : Nat) (h : Bool) (a b c p : Nat) : zpr zgp := if tH tx n p = some 109 then tEnd n (h, a, b, c, true) (p + 1) else tEnd n (h, a, b, c, false) p
def tGameN (tx : Nat → Nat) (n : Nat) : zpr zgp := zbd (tNum tx n 1) fun a p => if 1 ≤ a ∧ a ≤ 20 then zbd (tNeed tx n 47 p) fun _ p => zbd (tDig tx n 49 51 p) fun b p => tFin tx n true a b 0 p else (none, p - 1)
def tGameG (tx : Nat → Nat) (n : Nat) : zpr zgp := zbd (tDig tx n 49 51 1) fun a p => zbd (tNeed tx n 120 p) fun _ p => zbd (tDig tx n 49 51 p) fun b p => zbd (tNeed tx n 107 p) fun _ p => zbd (tDig tx n 49 51 p) fun c p => tFin tx n false a b c p
def tGame (tx : Nat → Nat) (n : Nat) : zpr zgp := if tH tx n 0 = some 110 then tGameN tx n else if tH tx n 0 = some 103 then tGameG tx n else (none, 0)
def zbn (b : Bool) : Nat := if b = true then 1 else 0
def sGset (g : zg) (r : zgp) : zg := fun k => if k = 0 then zbn r.1 else if k = 4 then zbn r.2.2.2.2 else if r.1 = true then (if k = 5 then r.2.1 else if k = 6 then r.2.2.1 else g k) else (if k = 1 then r.2.1 else if k = 2 then r.2.2.1 else if k = 3 then r.2.2.2.1 else g k)
theorem tDig_bd {tx : Nat → Nat} {n lo hi a d p : Nat} (h : tDig tx n lo hi a = (some d, p)) : lo - 48 ≤ d ∧ d ≤ hi - 48 := by
  unfold tDig at h
  cases q : tH tx n a with
  | none => rw [q] at h; injection h with h1 _; cases h1
  | some b =>
    rw [q] at h
    dsimp only at h
    split at h
    · injection h with h1 _
      injection h1 with h1
      omega
    · injection h with h1 _
      cases h1
/-- what a text's reading touches -/
def tTx (o k : Nat) : Bool := Nat.beq o 0 && (Nat.beq k 31 || Nat.beq k 34 || Nat.beq k 39 || Nat.beq k 40 || Nat.beq k 41)
def tGm (o k : Nat) : Bool := tB o k || tTx o k || (Nat.beq o 0 && Nat.blt k 7)
theorem zbn_i (b : Bool) : zbo b = nI (zbn b) := by cases b <;> rfl
theorem zbn_le (b : Bool) : zbn b ≤ 1 := by cases b <;> decide
section
variable {G : zG} {n : Nat} {I : zI} {L : zL} {q : zq} {post : zPo} {g : zg} {c : sC} {tx : Nat → Nat} {tn : Nat}
theorem c_game (hg : mG g I) (hc : mC c I) (hall : cAll c) (he : cEmp c) (ht : mTx tx tn I) (h1 : ∀ r p, tGame tx tn = (some r, p) → ∀ I' : zI, mG (sGset g r) I' → mPos (sGset g r) I' → mC (cClr c) I' → (∀ i, i < 3 → I' 29 i = 0) → I' 0 31 = 0 → I' 0 34 = 0 → zFr tGm I I' → post (some (.int 0)) I' L (zR1 q)) (h0 : ∀ e, tGame tx tn = (none, e) → ∀ I' : zI, I' 0 31 = 0 → I' 0 34 = 0 → zFr tTx I I' → post (some (.int (-1 - nI e))) I' L (zR1 q)) : zC G (n + 28) 53 [.ref 0] I L (zR1 q) post := by
  -- wrong somewhere
  have pW : ∀ (e p : Nat) (I' : zI) (x1 x2 x3 x4 : Int32), mPr tx tn p (some e) I' → tGame tx tn = (none, e) → I' 0 31 = 0 → I' 0 34 = 0 → zFr tTx I I' → zQ G 53 (n + 27) post 191 [some (.ref 0), some (.int x1), some (.int x2), some (.int x3), some (.int x4), none, none] [] I' L (zR1 q) := by
    intro e p I' x1 x2 x3 x4 hp hG h31 h34 hf
    have hne : ¬ (-1 - nI e = 0) := by
      have he60 : e ≤ 60 := hp.2.2.2.2.2.1 e rfl
      exact (by decide : ∀ e, e ≤ 60 → ¬ (-1 - nI e = 0)) e he60
    refine b53_191 (c_fine hp (And.intro (fun _ => b53_211 (b53_212 (c_ends1 hp ?_))) (fun z => absurd rfl z)))
    exact And.intro (fun z => absurd z hne) (fun _ => h0 e hG I' h31 h34 hf)
  -- read, but for the m and the end
  have pF : ∀ (hh : Bool) (a b d p : Nat) (I' : zI), mPr tx tn p none I' → tGame tx tn = tFin tx tn hh a b d p → (hh = true → (1 ≤ a ∧ a ≤ 20) ∧ 1 ≤ b ∧ b ≤ 3) → (hh = false → (1 ≤ a ∧ a ≤ 3) ∧ (1 ≤ b ∧ b ≤ 3) ∧ 1 ≤ d ∧ d ≤ 3) → I' 0 31 = 0 → I' 0 34 = 0 → zFr tTx I I' → zQ G 53 (n + 27) post 191 [some (.ref 0), some (.int (zbo hh)), some (.int (nI a)), some (.int (nI b)), some (.int (nI d)), none, none] [] I' L (zR1 q) := by
    intro hh a b d p I' hp hG hb1 hb2 h31 h34 hf
    -- with m told
    have pM : ∀ (mm : Bool) (p' : Nat) (I2 : zI), mPr tx tn p' none I2 → tGame tx tn = tEnd tn (hh, a, b, d, mm) p' → I2 0 31 = 0 → I2 0 34 = 0 → zFr tTx I I2 → zQ G 53 (n + 27) post 212 [some (.ref 0), some (.int (zbo hh)), some (.int (nI a)), some (.int (nI b)), some (.int (nI d)), none, none] [.int (zbo mm)] I2 L (zR1 q) := by
      intro mm p' I2 hp2 hG2 h31 h34 hf2
      have hp60 := hp2.2.2.2.1
      refine b53_212 (c_ends hp2 (fun z => ?_) (fun z => ?_))
      · have hne : ¬ (-1 - nI p' = 0) := (by decide : ∀ e, e ≤ 60 → ¬ (-1 - nI e = 0)) p' hp60
        unfold tEnd at hG2
        rw [if_pos z] at hG2
        exact And.intro (fun w => absurd w hne) (fun _ => h0 p' hG2 _ h31 h34 (zFr_tr hf2 (zFr_up (zFr_0 _ _) rfl)))
      · unfold tEnd at hG2
        rw [if_neg (by omega)] at hG2
        have h1 := h1 _ _ hG2
        refine And.intro (fun _ => b53_228 (And.intro ⟨zbo_nar mm, zbo_fit mm⟩ ?_)) (fun w => absurd rfl w)
        obtain ⟨I3, hI3⟩ : ∃ I3 : zI, I3 = zup I2 0 4 (zbo mm) := ⟨_, rfl⟩
        have hf3 : zFr tGm I I3 := by
          rw [hI3]
          refine zFr_up (fun o k z2 => hf2 o k ?_) rfl
          unfold tGm at z2
          simp only [Bool.or_eq_false_iff] at z2
          exact z2.1.2
        have hc3 : mC c I3 := by
          rw [hI3]
          exact mC_of hc (by rw [zup_ne (by decide)]; exact zFr_row hf2 fun _ => rfl) (by rw [zup_ne (by decide)]; exact zFr_row hf2 fun _ => rfl) (by rw [zup_k (by decide)]; exact hf2 0 14 rfl) (by rw [zup_k (by decide)]; exact hf2 0 15 rfl) (by rw [zup_k (by decide)]; exact hf2 0 16 rfl)
        have h4 : I3 0 4 = nI (zbn mm) := by rw [hI3, zup_self, zbn_i]
        have h313 : I3 0 31 = 0 := by rw [hI3, zup_k (by decide)]; exact h31
        have h343 : I3 0 34 = 0 := by rw [hI3, zup_k (by decide)]; exact h34
        have hk3 : ∀ k, (k = 1 ∨ k = 2 ∨ k = 3 ∨ k = 5 ∨ k = 6 ∨ k = 7 ∨ k = 8) → I3 0 k = nI (g k) := fun k hk => by
          rw [hI3, zup_k (by omega), hf2 0 k (by rcases hk with a | a | a | a | a | a | a <;> subst a <;> rfl)]
          exact mG0 hg k (by omega)
        rw [← hI3]
        refine c_emptyAll hc3 hall he fun I4 hc4 hf4 => And.intro ⟨zbo_nar hh, zbo_fit hh⟩ ?_
        have hall4 := cAll_clr hall
        have he4 : cEmp (cClr c) := fun _ _ _ _ => rfl
        -- the game set
        have go : ∀ J : zI, (∀ k, k < 9 → J 0 k = nI (sGset g (hh, a, b, d, mm) k)) → (∀ o k, ¬ (o = 0 ∧ k < 7) → J o k = I4 o k) → zQ G 53 (n + 27) post 276 [some (.ref 0), some (.int (zbo hh)), some (.int (nI a)), some (.int (nI b)), some (.int (nI d)), some (.int (zbo mm)), some (.int 0)] [] J L (zR1 q) := by
          intro J hJ hJo
          have hok : gOk (sGset g (hh, a, b, d, mm)) := by
            obtain ⟨a0, a1, a2, a3, a4, a5, a6, a7, a8⟩ := hg.1
            have zl1 := zbn_le hh
            have zl2 := zbn_le mm
            cases hh with
            | true =>
              have hb := hb1 rfl
              exact ⟨zl1, a1, a2, a3, zl2, hb.1, hb.2, a7, a8⟩
            | false =>
              have hb := hb2 rfl
              exact ⟨zl1, hb.1, hb.2.1, hb.2.2, zl2, a5, a6, a7, a8⟩
          have hcJ : mC (cClr c) J := mC_of hc4 (funext fun k => hJo 5 k (by omega)) (funext fun k => hJo 4 k (by omega)) (hJo 0 14 (by omega)) (hJo 0 15 (by omega)) (hJo 0 16 (by omega))
          refine b53_276 (c_begin ⟨hok, hJ⟩ hcJ hall4 he4 fun I5 hg5 hm5 hc5 h29 hf5 => ?_)
          refine h1 I5 hg5 hm5 hc5 h29 ?_ ?_ (fun o k z2 => ?_)
          · rw [hf5 0 31 rfl, hJo 0 31 (by omega), hf4 0 31 rfl]
            exact h313
          · rw [hf5 0 34 rfl, hJo 0 34 (by omega), hf4 0 34 rfl]
            exact h343
          · have z3 := z2
            unfold tGm at z2
            simp only [Bool.or_eq_false_iff] at z2
            rw [hf5 o k z2.1.1, hJo o k (fun ⟨x1, x2⟩ => by
              subst x1
              have : Nat.blt k 7 = true := Nat.ble_eq.mpr x2
              rw [this] at z2
              cases z2.2), hf4 o k (tE_tB o k z2.1.1)]
            exact hf3 o k z3
        have e4 : ∀ k, k < 9 → I4 0 k = I3 0 k := fun k hk => hf4 0 k (tE_g k hk)
        cases hh with
        | true =>
          refine And.intro (fun w => absurd w (by decide)) (fun _ => ?_)
          refine go (zup (zup (zup I4 0 0 (zbo true)) 0 5 (nI a)) 0 6 (nI b)) (fun k hk => ?_) (fun o k hh => ?_)
          · rw [zup_eq, zup_eq, zup_eq]
            match k, hk with
            | 0, _ => rfl
            | 1, _ => exact (e4 1 (by omega)).trans (hk3 1 (by omega))
            | 2, _ => exact (e4 2 (by omega)).trans (hk3 2 (by omega))
            | 3, _ => exact (e4 3 (by omega)).trans (hk3 3 (by omega))
            | 4, _ => exact (e4 4 (by omega)).trans h4
            | 5, _ => rfl
            | 6, _ => rfl
            | 7, _ => exact (e4 7 (by omega)).trans (hk3 7 (by omega))
            | 8, _ => exact (e4 8 (by omega)).trans (hk3 8 (by omega))
            | k + 9, hk => omega
          · unfold zup
            by_cases d2 : o = 0
            · rw [if_pos d2, if_neg (by omega), if_pos d2, if_neg (by omega), if_pos d2, if_neg (by omega)]
            · rw [if_neg d2, if_neg d2, if_neg d2]
        | false =>
          refine And.intro (fun _ => b53_260 ?_) (fun w => absurd rfl w)
          refine go (zup (zup (zup (zup I4 0 0 (zbo false)) 0 1 (nI a)) 0 2 (nI b)) 0 3 (nI d)) (fun k hk => ?_) (fun o k hh => ?_)
          · rw [zup_eq, zup_eq, zup_eq, zup_eq]
            match k, hk with
            | 0, _ => rfl
            | 1, _ => rfl
            | 2, _ => rfl
            | 3, _ => rfl
            | 4, _ => exact (e4 4 (by omega)).trans h4
            | 5, _ => exact (e4 5 (by omega)).trans (hk3 5 (by omega))
            | 6, _ => exact (e4 6 (by omega)).trans (hk3 6 (by omega))
            | 7, _ => exact (e4 7 (by omega)).trans (hk3 7 (by omega))
            | 8, _ => exact (e4 8 (by omega)).trans (hk3 8 (by omega))
            | k + 9, hk => omega
          · unfold zup
            by_cases d2 : o = 0
            · rw [if_pos d2, if_neg (by omega), if_pos d2, if_neg (by omega), if_pos d2, if_neg (by omega), if_pos d2, if_neg (by omega)]
            · rw [if_neg d2, if_neg d2, if_neg d2, if_neg d2]
    refine b53_191 (c_fine hp (And.intro (fun z => absurd z (by decide)) (fun _ => ?_)))
    refine c_passes (c := 109) rfl hp (by decide) (fun z => ?_) (fun z => ?_)
    · have hlt := tH_lt hp z
      refine And.intro (fun w => absurd w (by decide)) (fun _ => pM true (p + 1) _ (mPr_at hp (by omega)) ?_ h31 h34 (zFr_tr hf (zFr_up (zFr_0 _ _) rfl)))
      rw [hG]
      unfold tFin
      rw [if_pos z]
    · refine And.intro (fun _ => b53_211 (pM false p I' hp ?_ h31 h34 hf)) (fun w => absurd rfl w)
      rw [hG]
      unfold tFin
      rw [if_neg z]
  have up : ∀ (I' : zI) (k : Nat) (v : Int32), (k = 40 ∨ k = 41) → (I' 0 31 = 0 → I' 0 34 = 0 → zFr tTx I I' → zup I' 0 k v 0 31 = 0 ∧ zup I' 0 k v 0 34 = 0 ∧ zFr tTx I (zup I' 0 k v)) := by
    intro I' k v hk a1 a2 a3
    rcases hk with e | e <;> subst e
    · exact ⟨a1, a2, zFr_tr a3 (zFr_up (zFr_0 _ _) rfl)⟩
    · exact ⟨a1, a2, zFr_tr a3 (zFr_up (zFr_0 _ _) rfl)⟩
  refine zin0 rfl rfl rfl (b53_0 (c_startText (tx := tx) (tn := tn) ?_ fun I1 hp1 h311 ho1 => ?_))
  · exact ⟨ht.1, ht.2.1, fun j hj => by rw [zup_ne (by decide)]; exact ht.2.2 j hj⟩
  have h341 : I1 0 34 = 0 := by rw [ho1 0 34 (by omega)]; rfl
  have hf1 : zFr tTx I I1 := fun o k z => by
    rw [ho1 o k (fun ⟨x1, x2⟩ => by subst x1; rcases x2 with a | a | a | a <;> subst a <;> cases z)]
    unfold zup
    by_cases d : o = 0
    · rw [if_pos d, if_neg (fun a => by subst d a; cases z)]
    · rw [if_neg d]
  -- behind the first sign
  have p45 : ∀ (hh : Bool) (wr : Option Nat) (I2 : zI), mPr tx tn 0 wr I2 → I2 0 31 = 0 → I2 0 34 = 0 → zFr tTx I I2 → (wr = none → tGame tx tn = if hh = true then tGameN tx tn else tGameG tx tn) → (∀ e, wr = some e → hh = false ∧ tGame tx tn = (none, e)) → zQ G 53 (n + 27) post 45 [some (.ref 0), some (.int (zbo hh)), none, none, none, none, none] [] I2 L (zR1 q) := by
    intro hh wr I2 hp2 h312 h342 hf2 hG hW
    have h40 : I2 0 40 = nI 0 := hp2.2.2.1
    refine b53_45 (And.intro rfl ?_)
    have hp3 := mPr_at hp2 (a' := 1) (by omega)
    obtain ⟨k1, k2, k3⟩ := up I2 40 (nI 1) (by omega) h312 h342 hf2
    show zC G (n + 27) 47 [.ref 0] (zup I2 0 40 (I2 0 40 + 1)) L (zR1 q) _
    rw [show I2 0 40 + 1 = nI 1 by rw [h40]; rfl]
    generalize zup I2 0 40 (nI 1) = I3 at *
    refine c_fine hp3 ?_
    cases wr with
    | some e =>
      obtain ⟨x1, x2⟩ := hW e rfl
      subst x1
      refine And.intro (fun _ => b53_130 (c_fine hp3 (And.intro (fun _ => pW e 1 I3 _ _ _ _ hp3 x2 k1 k2 k3) (fun w => absurd rfl w)))) (fun w => absurd rfl w)
    | none =>
      have hG := hG rfl
      refine And.intro (fun w => absurd w (by decide)) (fun _ => ?_)
      cases hh with
      | true =>
        rw [if_pos rfl] at hG
        unfold tGameN at hG
        refine And.intro (fun w => absurd w (by decide)) (fun _ => c_number hp3 (fun a p hN ha hap hp40 => ?_) (fun hN => ?_))
        · rw [hN] at hG
          have hG : tGame tx tn = if 1 ≤ a ∧ a ≤ 20 then zbd (tNeed tx tn 47 p) fun _ p => zbd (tDig tx tn 49 51 p) fun b p => tFin tx tn true a b 0 p else (none, p - 1) := hG
          have hp4 := mPr_at hp3 (a' := p) (by omega)
          obtain ⟨l1, l2, l3⟩ := up I3 40 (nI p) (by omega) k1 k2 k3
          generalize zup I3 0 40 (nI p) = I4 at *
          refine c_fine hp4 (And.intro (fun w => absurd w (by decide)) (fun _ => ?_))
          show zC G (n + 27) 2 [.int (nI a), .int 1, .int 20] I4 L (zR1 q) _
          refine c_inN (x := a) (lo := 1) (hi := 20) rfl rfl rfl (by omega) (by omega) (by omega) ?_
          by_cases z : 1 ≤ a ∧ a ≤ 20
          · rw [decide_eq_true z]
            rw [if_pos z] at hG
            refine And.intro (fun _ => b53_105 (c_need (c := 47) rfl (by decide) hp4 (fun hn hp40 => ?_) (fun hn => ?_))) (fun w => absurd w (by decide))
            · rw [hn] at hG
              have hG : tGame tx tn = zbd (tDig tx tn 49 51 (p + 1)) fun b p => tFin tx tn true a b 0 p := hG
              have hp5 := mPr_at hp4 (a' := p + 1) (by omega)
              obtain ⟨m1, m2, m3⟩ := up I4 40 (nI (p + 1)) (by omega) l1 l2 l3
              generalize zup I4 0 40 (nI (p + 1)) = I5 at *
              refine c_fine hp5 (And.intro (fun w => absurd w (by decide)) (fun _ => c_digit (lo := 49) (hi := 51) rfl rfl (by decide) (by decide) hp5 (fun b hb hb3 hp40 => ?_) (fun hb => ?_)))
              · rw [hb] at hG
                have hG : tGame tx tn = tFin tx tn true a b 0 (p + 1 + 1) := hG
                have hb1 := tDig_bd hb
                obtain ⟨m1, m2, m3⟩ := up I5 40 (nI (p + 1 + 1)) (by omega) m1 m2 m3
                exact pF true a b 0 (p + 1 + 1) _ (mPr_at hp5 (by omega)) hG (fun _ => ⟨z, by omega⟩) (fun w => by cases w) m1 m2 m3
              · rw [hb] at hG
                obtain ⟨m1, m2, m3⟩ := up I5 41 (nI (p + 1)) (by omega) m1 m2 m3
                exact pW (p + 1) (p + 1) _ _ _ _ _ (mPr_wr hp5 (by omega)) hG m1 m2 m3
            · rw [hn] at hG
              obtain ⟨m1, m2, m3⟩ := up I4 41 (nI p) (by omega) l1 l2 l3
              have hp5 := mPr_wr hp4 (e := p) (by omega)
              exact c_fine hp5 (And.intro (fun _ => pW p p _ _ _ _ _ hp5 hG m1 m2 m3) (fun w => absurd rfl w))
          · rw [decide_eq_false z]
            rw [if_neg z] at hG
            have h40 : I4 0 40 - 1 = nI (p - 1) := by rw [hp4.2.2.1]; exact pk_sub (b := 1) (by omega)
            refine And.intro (fun w => absurd rfl w) (fun _ => c_isWrong h40 hp4 (b53_105 ?_))
            have hp5 := mPr_wr hp4 (e := p - 1) (by omega)
            obtain ⟨m1, m2, m3⟩ := up I4 41 (nI (p - 1)) (by omega) l1 l2 l3
            exact c_need1 hp5 (c_fine hp5 (And.intro (fun _ => pW (p - 1) p _ _ _ _ _ hp5 hG m1 m2 m3) (fun w => absurd rfl w)))
        · rw [hN] at hG
          have hp4 := mPr_wr hp3 (e := 1) (by omega)
          obtain ⟨m1, m2, m3⟩ := up I3 41 (nI 1) (by omega) k1 k2 k3
          refine c_fine hp4 (And.intro (fun _ => b53_105 (c_need1 hp4 (c_fine hp4 (And.intro (fun _ => pW 1 1 _ _ _ _ _ hp4 hG m1 m2 m3) (fun w => absurd rfl w))))) (fun w => absurd rfl w))
      | false =>
        rw [if_neg Bool.false_ne_true] at hG
        unfold tGameG at hG
        refine And.intro (fun _ => b53_130 (c_fine hp3 (And.intro (fun w => absurd w (by decide)) (fun _ => c_digit (lo := 49) (hi := 51) rfl rfl (by decide) (by decide) hp3 (fun a ha ha3 _ => ?_) (fun ha => ?_))))) (fun w => absurd rfl w)
        · rw [ha] at hG
          have hG : tGame tx tn = zbd (tNeed tx tn 120 2) fun _ p => zbd (tDig tx tn 49 51 p) fun b p => zbd (tNeed tx tn 107 p) fun _ p => zbd (tDig tx tn 49 51 p) fun c p => tFin tx tn false a b c p := hG
          have ha1 := tDig_bd ha
          have hp4 := mPr_at hp3 (a' := 2) (by omega)
          obtain ⟨l1, l2, l3⟩ := up I3 40 (nI 2) (by omega) k1 k2 k3
          generalize zup I3 0 40 (nI 2) = I4 at *
          refine c_need (c := 120) rfl (by decide) hp4 (fun hn _ => ?_) (fun hn => ?_)
          · rw [hn] at hG
            have hG : tGame tx tn = zbd (tDig tx tn 49 51 3) fun b p => zbd (tNeed tx tn 107 p) fun _ p => zbd (tDig tx tn 49 51 p) fun c p => tFin tx tn false a b c p := hG
            have hp5 := mPr_at hp4 (a' := 3) (by omega)
            obtain ⟨m1, m2, m3⟩ := up I4 40 (nI 3) (by omega) l1 l2 l3
            generalize zup I4 0 40 (nI 3) = I5 at *
            refine c_fine hp5 (And.intro (fun w => absurd w (by decide)) (fun _ => c_digit (lo := 49) (hi := 51) rfl rfl (by decide) (by decide) hp5 (fun b hb hb3 _ => b53_168 ?_) (fun hb => b53_168 ?_)))
            · rw [hb] at hG
              have hG : tGame tx tn = zbd (tNeed tx tn 107 4) fun _ p => zbd (tDig tx tn 49 51 p) fun c p => tFin tx tn false a b c p := hG
              have hb1 := tDig_bd hb
              have hp6 := mPr_at hp5 (a' := 4) (by omega)
              obtain ⟨m1, m2, m3⟩ := up I5 40 (nI 4) (by omega) m1 m2 m3
              generalize zup I5 0 40 (nI 4) = I6 at *
              refine c_need (c := 107) rfl (by decide) hp6 (fun hn _ => ?_) (fun hn => ?_)
              · rw [hn] at hG
                have hG : tGame tx tn = zbd (tDig tx tn 49 51 5) fun c p => tFin tx tn false a b c p := hG
                have hp7 := mPr_at hp6 (a' := 5) (by omega)
                obtain ⟨m1, m2, m3⟩ := up I6 40 (nI 5) (by omega) m1 m2 m3
                generalize zup I6 0 40 (nI 5) = I7 at *
                refine c_fine hp7 (And.intro (fun w => absurd w (by decide)) (fun _ => c_digit (lo := 49) (hi := 51) rfl rfl (by decide) (by decide) hp7 (fun d hd hd3 _ => ?_) (fun hd => ?_)))
                · rw [hd] at hG
                  have hG : tGame tx tn = tFin tx tn false a b d 6 := hG
                  have hd1 := tDig_bd hd
                  obtain ⟨m1, m2, m3⟩ := up I7 40 (nI 6) (by omega) m1 m2 m3
                  exact pF false a b d 6 _ (mPr_at hp7 (by omega)) hG (fun w => by cases w) (fun _ => ⟨by omega, by omega, by omega⟩) m1 m2 m3
                · rw [hd] at hG
                  obtain ⟨m1, m2, m3⟩ := up I7 41 (nI 5) (by omega) m1 m2 m3
                  exact pW 5 5 _ _ _ _ _ (mPr_wr hp7 (by omega)) hG m1 m2 m3
              · rw [hn] at hG
                have hp7 := mPr_wr hp6 (e := 4) (by omega)
                obtain ⟨m1, m2, m3⟩ := up I6 41 (nI 4) (by omega) m1 m2 m3
                exact c_fine hp7 (And.intro (fun _ => pW 4 4 _ _ _ _ _ hp7 hG m1 m2 m3) (fun w => absurd rfl w))
            · rw [hb] at hG
              have hp6 := mPr_wr hp5 (e := 3) (by omega)
              obtain ⟨m1, m2, m3⟩ := up I5 41 (nI 3) (by omega) m1 m2 m3
              exact c_need1 hp6 (c_fine hp6 (And.intro (fun _ => pW 3 3 _ _ _ _ _ hp6 hG m1 m2 m3) (fun w => absurd rfl w)))
          · rw [hn] at hG
            have hp5 := mPr_wr hp4 (e := 2) (by omega)
            obtain ⟨m1, m2, m3⟩ := up I4 41 (nI 2) (by omega) l1 l2 l3
            exact c_fine hp5 (And.intro (fun _ => b53_168 (c_need1 hp5 (c_fine hp5 (And.intro (fun _ => pW 2 2 _ _ _ _ _ hp5 hG m1 m2 m3) (fun w => absurd rfl w))))) (fun w => absurd rfl w))
        · rw [ha] at hG
          have hp4 := mPr_wr hp3 (e := 1) (by omega)
          obtain ⟨m1, m2, m3⟩ := up I3 41 (nI 1) (by omega) k1 k2 k3
          exact c_need1 hp4 (c_fine hp4 (And.intro (fun _ => b53_168 (c_need1 hp4 (c_fine hp4 (And.intro (fun _ => pW 1 1 _ _ _ _ _ hp4 hG m1 m2 m3) (fun w => absurd rfl w))))) (fun w => absurd rfl w)))
  refine c_here hp1 ?_
  have e110 := tHv_eq hp1 (c := 110) (by decide)
  have e103 := tHv_eq hp1 (c := 103) (by decide)
  show (¬ tHv tx tn 0 = nI 110 → _) ∧ (tHv tx tn 0 = nI 110 → _)
  refine And.intro (fun z => b53_22 (b53_23 (And.intro (fun w => absurd rfl w) (fun _ => c_here hp1 ?_)))) (fun z => b53_23 (And.intro (fun _ => ?_) (fun w => absurd w (by decide))))
  · have z' : tH tx tn 0 ≠ some 110 := fun w => z (e110.mpr w)
    show (tHv tx tn 0 = nI 103 → _) ∧ (¬ tHv tx tn 0 = nI 103 → _)
    refine And.intro (fun z2 => p45 false none I1 hp1 h311 h341 hf1 (fun _ => ?_) (fun e he => by cases he)) (fun z2 => ?_)
    · unfold tGame
      rw [if_neg z', if_pos (e103.mp z2)]
      rfl
    · have h40 : I1 0 40 = nI 0 := hp1.2.2.1
      obtain ⟨m1, m2, m3⟩ := up I1 41 (nI 0) (by omega) h311 h341 hf1
      refine c_isWrong h40 hp1 (p45 false (some 0) _ (mPr_wr hp1 (by omega)) m1 m2 m3 (fun w => by cases w) (fun e he => ⟨rfl, ?_⟩))
      injection he with he
      subst he
      unfold tGame
      rw [if_neg z', if_neg (fun w => z2 (e103.mpr w))]
  · refine p45 true none I1 hp1 h311 h341 hf1 (fun _ => ?_) (fun e he => by cases he)
    unfold tGame
    rw [if_pos (e110.mp z)]
    rfl
end
