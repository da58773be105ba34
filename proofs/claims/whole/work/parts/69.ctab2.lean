-- ===== the class: filling arrays; going out from a position =====
theorem zck_t {b : Bool} {p : Prop} (hb : b = true) (h : p) : zck b p := by rw [hb]; exact h
theorem zan_t {q : (FieldType × Nat) ⊕ Nat} {k : FieldType → Nat → Prop} {t : FieldType} {m : Nat} (hq : q = .inl (t, m)) (h : k t m) : zan q k := by rw [hq]; exact h
theorem zai_t {q : (FieldType × Nat) ⊕ Nat} {k : Nat → Prop} {m : Nat} (hq : q = .inl (.int, m)) (h : k m) : zai q k := by rw [hq]; exact h
theorem nI_neq1 {a : Nat} (h : a < 2 ^ 31) : ¬ nI a = -1 := zon_ne h
theorem sFB_ext {f f' : Nat → Bool} : ∀ n, (∀ k, k < n → f k = f' k) → sFB f n = sFB f' n
  | 0, _ => rfl
  | n + 1, h => by rw [sFB, sFB, sFB_ext n (fun k hk => h k (by omega)), h n (by omega)]
theorem sFB_more {f : Nat → Bool} {n : Nat} : ∀ j, (∀ k, n ≤ k → f k = false) → sFB f (n + j) = sFB f n
  | 0, _ => rfl
  | j + 1, h => by
    show sFB f (n + j) + _ = _
    rw [sFB_more j h, if_neg (fun z => absurd (z.symm.trans (h (n + j) (by omega))) (by decide))]
    rfl
theorem sFB_or {f : Nat → Bool} {n : Nat} (hn : n < 9) (h : f n = true) : nI (sFB f n) ||| nI (2 ^ n) = nI (sFB f (n + 1)) := by
  rw [zorN, zor9 n hn _ (sFB_lt f n), sFB, if_pos h]
theorem sCell_0n (k : Nat) : sCell 0 k = 0 := by unfold sCell; rw [Nat.zero_div]
theorem sCnt_0n : ∀ k, sCnt 0 k = 0
  | 0 => rfl
  | k + 1 => by rw [sCnt, sCnt_0n k, sCell_0n]; rfl
theorem sWork_first {g : zg} (hg : gOk g) : sWork g (sFirst g) = 0 := by
  have hpl := sPl_pos hg
  obtain ⟨h0, -, -, ⟨h3, -⟩, -, h5, -⟩ := hg
  unfold sWork sFirst
  by_cases c : g 0 = 1
  · rw [if_pos c, if_pos c, if_pos (by omega)]
    unfold sMov
    rw [if_pos c]
    omega
  · rw [if_neg c, if_neg c]
    have m0 : sMov g 0 = 0 := by unfold sMov; rw [if_neg c, sCnt_0n]
    have r0 : sRow g 0 (1 - sMov g 0 + 1) = false := by
      rw [m0, Bool.eq_false_iff]
      intro z
      unfold sRow at z
      obtain ⟨pl, -, z⟩ := List.any_eq_true.mp z
      obtain ⟨d, -, z⟩ := List.any_eq_true.mp z
      have z := List.all_eq_true.mp z 0 (List.mem_range.mpr (by omega))
      unfold sAt at z
      have z := (Bool.and_eq_true_iff.mp (Bool.and_eq_true_iff.mp z).2).2
      have z := of_decide_eq_true z
      rw [sCell_0n] at z
      omega
    rw [if_neg (by rw [r0]; decide), if_neg]
    · exact m0
    · unfold sStn
      rw [if_neg c, sCnt_0n]
      omega
def sIx (g : zg) (p : Nat) : Nat := if g 0 = 1 then sSz g - 1 - p else p
theorem sOr_ix {g : zg} {p : Nat} (hp : p < sSz g) : sOr g (sIx g p) = p ∧ sIx g p < sSz g := by
  unfold sOr sIx
  split <;> omega
theorem sIx_or {g : zg} {i : Nat} (hi : i < sSz g) : sIx g (sOr g i) = i ∧ sOr g i < sSz g := by
  unfold sOr sIx
  split <;> omega
theorem sIx_beh {g : zg} (hg : gOk g) {p m : Nat} (hp : sIn g p) (hc : sCan g p m = true) : sIx g p < sIx g (sBeh g p m) := by
  have h1 := sIn_sz hp
  have h2 := sIn_sz (sIn_beh hg hp hc)
  unfold sIx
  by_cases c : g 0 = 1
  · rw [if_pos c, if_pos c]
    have := sCan_heap hc c
    have e : sBeh g p m = 2 * (p / 2 - m - 1) + 1 - p % 2 := by unfold sBeh; rw [if_pos c]
    omega
  · rw [if_neg c, if_neg c]
    have e : sBeh g p m = p + (sMov g p + 1) * 3 ^ m := by unfold sBeh; rw [if_neg c]
    have := Nat.pow_pos (n := m) (show 0 < 3 by decide)
    have : 1 * 1 ≤ (sMov g p + 1) * 3 ^ m := Nat.mul_le_mul (by omega) this
    omega
section
variable {G : zG} {n : Nat} {I : zI} {L : zL} {R : zR} {q : zq} {post : zPo} {g : zg}
theorem k_fill {o m : Nat} {v : Int32} (hz : zin o zNN = true) (hk : zk o = .inl (.int, m)) (hm : m < 2 ^ 30) (h : ∀ I' : zI, (∀ k, k < m → I' o k = v) → (∀ o', o' ≠ o → I' o' = I o') → post none I' L R) : zC G (n + 1) 127 [.ref o, .int v] I L R post := by
  have key : ∀ j i (J : zI), i + j = m → (∀ k, k < i → J o k = v) → (∀ o', o' ≠ o → J o' = I o') → zQ G 127 n post 5 [some (.ref o), some (.int v), some (.int (nI i)), some (.int (Int32.ofNat m))] [] J L R := by
    intro j
    induction j with
    | zero =>
      intro i J hi hJ ho
      exact b127_5 (pk_le m i (fun _ => b127_20 (h J (fun k hk => hJ k (by omega)) ho)) (fun z => absurd z (by omega)) rfl rfl (by omega) (by omega))
    | succ j ih =>
      intro i J hi hJ ho
      refine b127_5 (pk_le m i (fun z => absurd z (by omega)) (fun _ => zck_t hz (zai_t hk (And.intro (vp_in_nI (by omega) (by omega)) ?_))) rfl rfl (by omega) (by omega))
      rw [nI_clamp (by omega)]
      have qq := ih (i + 1) (zup J o i v) (by omega) (fun k hk => by
        rw [zup_eq]
        by_cases d : k = i
        · rw [if_pos d]
        · rw [if_neg d]
          exact hJ k (by omega)) (fun o' h' => by rw [zup_ne h']; exact ho o' h')
      rw [← nI_1] at qq
      exact qq
  exact zin0 rfl rfl rfl (b127_0 (zck_t hz (zan_t hk (key m 0 I (by omega) (fun k hk => absurd hk (by omega)) (fun _ _ => rfl)))))
theorem sWork_beh {p m : Nat} (hg : gOk g) (hc : sCan g p m = true) : sWork g (sBeh g p m) = if g 0 = 1 then (if sBeh g p m < 2 then 2 + (if g 4 = 0 then sMov g p else 1 - sMov g p) else 1 - sMov g p) else if sRow g (sBeh g p m) (sMov g p + 1) = true then 2 + (if g 4 = 0 then sMov g p else 1 - sMov g p) else if sStn g (sBeh g p m) = sPl g then 4 else 1 - sMov g p := by
  have e := sMov_beh hg hc
  have hmv := sMov_le g p
  unfold sWork
  rw [e]
  by_cases c : g 0 = 1
  · rw [if_pos c, if_pos c]
    by_cases d : sBeh g p m < 2
    · rw [if_pos d, if_neg (by omega)]
      congr 1
      split <;> omega
    · rw [if_neg d, if_pos (by omega)]
  · rw [if_neg c, if_neg c, show 1 - (1 - sMov g p) + 1 = sMov g p + 1 by omega]
    split
    · congr 1
      split <;> omega
    · rfl
theorem k_arrive {p m own : Nat} {full : Bool} {x y z : Int32} (hg : kG g I) (hl : g 0 = 0 → kLn g I) (hr : sR g p) (hw : sWork g p < 2) (hc : sCan g p m = true) (hx : x = nI (sBeh g p m)) (hy : y = nI (sMov g p)) (hz : z = nI own) (h46 : I 46 (sBeh g p m) = -1 ∨ I 46 (sBeh g p m) = nI (sWork g (sBeh g p m))) (ho : g 0 = 0 → own < 512 ∧ ∀ k, own.testBit k = (decide (k < sPl g) && decide (sCell (sBeh g p m) k = sMov g p + 1))) (hf : g 0 = 0 → full = decide (sStn g (sBeh g p m) = sPl g)) (h : post none (if I 46 (sBeh g p m) = -1 then zup I 46 (sBeh g p m) (nI (sWork g (sBeh g p m))) else I) L (zR1 q)) : zC G (n + 2) 232 [.ref 44, .int x, .int y, .int z, .int (zbo full)] I L (zR1 q) post := by
  subst hx hy hz
  have hb19 : sBeh g p m < 19683 := (sIn_ok hg.1 (sIn_beh hg.1 (sR_in hg.1 hr) hc)).1
  have hmv := sMov_le g p
  have hwb := sWork_beh hg.1 hc
  have hwl := sWork_le g (sBeh g p m)
  generalize hq : sBeh g p m = b at *
  have hcl : (nI b).toNatClampNeg = b := nI_clamp (by omega)
  have g4 := hg.1.2.2.2.2.1
  have e1m : (1 : Int32) - nI (sMov g p) = nI (1 - sMov g p) := pk_sub (a := 1) hmv
  refine zin0 rfl rfl rfl (b232_0 (And.intro (fun z => absurd z (nI_pos (by omega))) (fun _ => pk_le 19683 b (fun z => absurd z (by omega)) (fun _ => And.intro (vp_in_nI hb19 (by decide)) ?_) rfl rfl (by omega) (by omega))))
  rw [hcl]
  by_cases c0 : I 46 b = -1
  · rw [if_pos c0] at h
    rw [c0]
    refine And.intro (fun _ => b232_23 ?_) (fun z => absurd (by decide) z)
    have made : (2 + (if g 4 = 0 then sMov g p else 1 - sMov g p) = sWork g b) → zQ G 232 (n + 1) post 51 [some (.ref 44), some (.int (nI b)), some (.int (nI (sMov g p))), some (.int (nI own)), some (.int (zbo full)), none] [.int 1] I L (zR1 q) := by
      intro e
      refine b232_51 (And.intro (fun z => absurd z (by decide)) (fun _ => ?_))
      show (I 45 5 = 0 → _) ∧ (¬ I 45 5 = 0 → _)
      rw [hg.2.2.1]
      refine pk_eq (g 4) 0 (fun d => b232_80 (b232_81 (And.intro (vp_in_nI hb19 (by decide)) (b232_114 ?_)))) (fun d => b232_81 (And.intro (vp_in_nI hb19 (by decide)) (b232_114 ?_))) rfl rfl (by omega) (by omega)
      · rw [if_pos d] at e
        rw [hcl, show (2 : Int32) + nI (sMov g p) = nI (2 + sMov g p) from nI_add 2 _, e]
        exact h
      · rw [if_neg d] at e
        rw [hcl, e1m, show (2 : Int32) + nI (1 - sMov g p) = nI (2 + (1 - sMov g p)) from nI_add 2 _, e]
        exact h
    refine khp hg (fun c => b232_46 ?_) (fun c => ?_)
    · rw [if_neg (by omega)] at hwb
      obtain ⟨ho1, ho2⟩ := ho c
      refine k_hasLine hg (hl c) ho1 ho2 ?_
      by_cases d : sRow g b (sMov g p + 1) = true
      · rw [if_pos d] at hwb
        rw [d]
        exact made hwb.symm
      · rw [if_neg d] at hwb
        rw [Bool.eq_false_iff.mpr d]
        refine b232_51 (And.intro (fun _ => b232_86 ?_) (fun z => absurd rfl z))
        refine zbo_eq (fun f => b232_110 (b232_113 (And.intro (vp_in_nI hb19 (by decide)) (b232_114 ?_)))) (fun f => ?_)
        · rw [hf c] at f
          rw [if_neg (of_decide_eq_false f)] at hwb
          rw [hcl, e1m, ← hwb]
          exact h
        · rw [hf c] at f
          rw [if_pos (of_decide_eq_true f)] at hwb
          show (¬ I 45 3 = 0 → _) ∧ (I 45 3 = 0 → _)
          rw [hg.2.1, if_neg (by omega)]
          refine And.intro (fun z => absurd rfl z) (fun _ => b232_113 (And.intro (vp_in_nI hb19 (by decide)) (b232_114 ?_)))
          rw [hcl, show (4 : Int32) = nI 4 from rfl, ← hwb]
          exact h
    · rw [if_pos c] at hwb
      refine pk_le 2 b (fun d => b232_42 (b232_51 (And.intro (fun _ => b232_86 ?_) (fun z => absurd rfl z)))) (fun d => ?_) rfl rfl (by omega) (by omega)
      · rw [if_neg (by omega)] at hwb
        have e3 : zup I 46 b (nI (1 - sMov g p)) = zup I 46 b (nI (sWork g b)) := by rw [hwb]
        have last : zQ G 232 (n + 1) post 110 [some (.ref 44), some (.int (nI b)), some (.int (nI (sMov g p))), some (.int (nI own)), some (.int (zbo full)), some (.int 0)] [.int (nI b), .ref 46] I L (zR1 q) := by
          refine b232_110 (b232_113 (And.intro (vp_in_nI hb19 (by decide)) (b232_114 ?_)))
          rw [hcl, e1m, e3]
          exact h
        refine zbo_eq (fun f => last) (fun f => ?_)
        have h5 := hg.1.2.2.2.2.2.1
        show (¬ I 45 3 = 0 → _) ∧ (I 45 3 = 0 → _)
        rw [hg.2.1, if_pos c]
        exact And.intro (fun _ => last) (fun z => absurd z (nI_ne0 (by omega) (by omega)))
      · rw [if_pos d] at hwb
        exact made hwb.symm
  · rw [if_neg c0] at h
    have e := h46.resolve_left c0
    rw [e]
    exact And.intro (fun z => absurd z (nI_pos (by omega))) (fun _ => b232_22 h)
/-- the marks of the table -/
def fMk (g : zg) (I : zI) : Prop := ∀ x, x < 19683 → I 46 x = -1 ∨ (sR g x ∧ I 46 x = nI (sWork g x))
def tTR (o k : Nat) : Bool := Nat.beq o 46 || Nat.beq o 47
theorem k_reachFrom {p : Nat} (hg : kG g I) (hl : g 0 = 0 → kLn g I) (hr : sR g p) (hw : sWork g p < 2) (h46 : I 46 p = nI (sWork g p)) (hmk : fMk g I) (h : ∀ I' : zI, (∀ x, I' 47 x = if x = p then nI (sLg g p) else I 47 x) → fMk g I' → (∀ x, I 46 x ≠ -1 → I' 46 x = I 46 x) → (∀ m, sCan g p m = true → I' 46 (sBeh g p m) ≠ -1) → (∀ x, (∀ m, sCan g p m = true → x ≠ sBeh g p m) → I' 46 x = I 46 x) → zFr tTR I I' → post none I' L (zR1 q)) : zC G (n + 3) 231 [.ref 44, .int (nI p)] I L (zR1 q) post := by
  have hp19 := sR_lt hg.1 hr
  have hpin := sR_in hg.1 hr
  have hmv := sMov_le g p
  have hpl := sPl_pos hg.1
  have hcl : (nI p).toNatClampNeg = p := nI_clamp (by omega)
  -- going to each move
  have moves : ∀ (own : Nat) (lv : zLv), (g 0 = 0 → own = sFB (fun k => decide (sCell p k = sMov g p + 1)) (sPl g)) → own < 512 → lv = [some (.ref 44), some (.int (nI p)), some (.int (nI (sMov g p))), some (.int (nI own)), some (.int (nI (sLg g p))), none, none, none] → zQ G 231 (n + 2) post 109 lv [] I L (zR1 q) := by
    intro own lv ho ho5 hlv
    have key : ∀ j m (J : zI) (lv : zLv), lv = [some (.ref 44), some (.int (nI p)), some (.int (nI (sMov g p))), some (.int (nI own)), some (.int (nI (sLg g p))), some (.int (nI m)), none, none] → m + j = 9 → (∀ x, J 47 x = if x = p then nI (sLg g p) else I 47 x) → fMk g J → (∀ x, I 46 x ≠ -1 → J 46 x = I 46 x) → (∀ m', m' < m → sCan g p m' = true → J 46 (sBeh g p m') ≠ -1) → (∀ x, (∀ m', sCan g p m' = true → x ≠ sBeh g p m') → J 46 x = I 46 x) → zFr tTR I J → zQ G 231 (n + 2) post 120 lv [] J L (zR1 q) := by
      intro j
      induction j with
      | zero =>
        intro m J lv hlv hm a1 a2 a3 a4 a5 a6
        subst hlv
        exact b231_120 (pk_le 9 m (fun _ => b231_175 (h J a1 a2 a3 (fun m' hm' => a4 m' (by have := sCan_9 hg.1 hm'; omega) hm') a5 a6)) (fun z => absurd z (by omega)) rfl rfl (by omega) (by omega))
      | succ j ih =>
        intro m J lv hlv hm a1 a2 a3 a4 a5 a6
        subst hlv
        have hgJ : kG g J := kG_of hg (zFr_row a6 fun _ => rfl)
        have hlJ : g 0 = 0 → kLn g J := fun c => kLn_of (hl c) (a6 44 6 rfl) (zFr_row a6 fun _ => rfl)
        have jp : J 46 p = nI (sMov g p) := by
          rw [a3 p (by rw [h46]; exact nI_neq1 (by omega)), h46, sWork_mov hw]
        refine b231_120 (pk_le 9 m (fun z => absurd z (by omega)) (fun _ => k_holds rfl (by have := sLg_lt g p; omega) rfl (by omega) ?_) rfl rfl (by omega) (by omega))
        rw [sLg_tb hg.1]
        refine zbo_eq (fun c => b231_169 ?_) (fun c => ?_)
        · have qq := ih (m + 1) J _ rfl (by omega) a1 a2 a3 (fun m' hm' hc' => a4 m' (by
            by_cases w : m' = m
            · subst w
              rw [c] at hc'
              cases hc'
            · omega) hc') a5 a6
          rw [← nI_1] at qq
          exact qq
        · have hb19 : sBeh g p m < 19683 := (sIn_ok hg.1 (sIn_beh hg.1 hpin c)).1
          refine k_next hgJ hp19 jp c ?_
          have ef : (1 : Int32) <<< (nI m &&& 31) = nI (2 ^ m) := zshl1 (by omega)
          have e512 : 2 ^ m < 512 := Nat.pow_lt_pow_right (n := 9) (by decide) (by omega)
          have hqr : sR g (sBeh g p m) := sR_step hr hw c
          -- behind the call
          have arr : ∀ full : Bool, full = decide (sLg g p = 2 ^ m) → zQ G 231 (n + 2) post 166 [some (.ref 44), some (.int (nI p)), some (.int (nI (sMov g p))), some (.int (nI own)), some (.int (nI (sLg g p))), some (.int (nI m)), none, none] [.int (zbo full), .int (nI own ||| nI (2 ^ m)), .int (nI (sMov g p)), .int (nI (sBeh g p m)), .ref 44] J L (zR1 q) := by
            intro full hfull
            refine b231_166 (k_arrive (p := p) (m := m) (own := own ||| 2 ^ m) hgJ hlJ hr hw c rfl rfl (zorN own (2 ^ m)) ((a2 _ hb19).imp id fun z => z.2) (fun cb => ⟨Nat.or_lt_two_pow (n := 9) ho5 e512, fun k => ?_⟩) (fun cb => ?_) ?_)
            · obtain ⟨c1, c2⟩ := sCan_board c cb
              rw [Nat.testBit_or, ho cb, sFB_tb, Nat.testBit_two_pow]
              have e : sBeh g p m = p + (sMov g p + 1) * 3 ^ m := by unfold sBeh; rw [if_neg (by omega)]
              rw [e, sCell_set _ (by omega) _ _ _ c1]
              by_cases w : k = m
              · rw [if_pos w, w, decide_eq_true rfl, decide_eq_true rfl, decide_eq_true c2, Bool.or_true]
                rfl
              · rw [if_neg w, decide_eq_false (p := m = k) (fun z => w z.symm), Bool.or_false]
            · obtain ⟨c1, c2⟩ := sCan_board c cb
              rw [hfull]
              apply decide_eq_decide.mpr
              have e : sBeh g p m = p + (sMov g p + 1) * 3 ^ m := by unfold sBeh; rw [if_neg (by omega)]
              have e2 : sStn g (sBeh g p m) = sCnt p (sPl g) + 1 := by
                unfold sStn
                rw [if_neg (by omega), e, sCnt_set _ (by omega) (by omega) _ _ c1, if_pos c2]
              rw [e2]
              have cnt := sFree hg.1 cb p
              have hle := sCnt_le p (sPl g)
              have hpc : sPc (sLg g p) = sPl g - sCnt p (sPl g) := by unfold sLg; rw [sPc_sFB, cnt]
              constructor
              · intro z
                have : sPc (2 ^ m) = 1 := (by decide +kernel : ∀ m, m < 9 → sPc (2 ^ m) = 1) m (by omega)
                rw [z, this] at hpc
                omega
              · intro z
                have one : sPc (sLg g p) = 1 := by omega
                have tb := sLg_tb hg.1 p m
                rw [c, Nat.testBit_eq_decide_div_mod_eq] at tb
                have tb := of_decide_eq_true tb
                exact (by decide +kernel : ∀ m, m < 9 → ∀ s, s < 512 → sPc s = 1 → s / 2 ^ m % 2 = 1 → s = 2 ^ m) m (by omega) _ (sLg_lt g p) one tb
            · -- the state told
              obtain ⟨J', hJ'⟩ : ∃ J' : zI, J' = if J 46 (sBeh g p m) = -1 then zup J 46 (sBeh g p m) (nI (sWork g (sBeh g p m))) else J := ⟨_, rfl⟩
              have jo : ∀ o, o ≠ 46 → J' o = J o := fun o ho => by
                rw [hJ']
                split
                · exact zup_ne ho
                · rfl
              have j46 : ∀ x, J' 46 x = if x = sBeh g p m ∧ J 46 x = -1 then nI (sWork g x) else J 46 x := fun x => by
                rw [hJ']
                by_cases w : x = sBeh g p m
                · subst w
                  by_cases w2 : J 46 (sBeh g p m) = -1
                  · rw [if_pos w2, if_pos ⟨rfl, w2⟩, zup_self]
                  · rw [if_neg w2, if_neg (fun z => w2 z.2)]
                · rw [if_neg (show ¬ (x = sBeh g p m ∧ J 46 x = -1) from fun z => w z.1)]
                  split
                  · exact zup_k w
                  · rfl
              show zP _ _ _ _ _ _ _ _ _ _ (if J 46 (sBeh g p m) = -1 then zup J 46 (sBeh g p m) (nI (sWork g (sBeh g p m))) else J) _ _
              rw [← hJ']
              have qq := ih (m + 1) J' _ rfl (by omega) (fun x => by rw [jo 47 (by decide)]; exact a1 x) (fun x hx => ?_) (fun x hx => ?_) (fun m' hm' hc' => ?_) (fun x hx => ?_) (fun o k z => ?_)
              · refine b231_169 ?_
                rw [← nI_1] at qq
                exact qq
              · rw [j46]
                split
                · rename_i w
                  right
                  rw [w.1]
                  exact ⟨hqr, rfl⟩
                · exact a2 x hx
              · rw [j46, a3 x hx, if_neg (fun z => hx z.2)]
              · rw [j46]
                by_cases w : m' = m
                · subst w
                  split
                  · exact nI_neq1 (by have := sWork_le g (sBeh g p m'); omega)
                  · rename_i w2
                    exact fun z => w2 ⟨rfl, z⟩
                · split
                  · rename_i w2
                    exact nI_neq1 (by have := sWork_le g (sBeh g p m'); omega)
                  · exact a4 m' (by omega) hc'
              · rw [j46, if_neg (fun z => hx m c z.1)]
                exact a5 x hx
              · have z46 : o ≠ 46 := fun w => by subst w; cases z
                rw [jo o z46]
                exact a6 o k z
          show (¬ nI (sLg g p) = (1 : Int32) <<< (nI m &&& 31) → _) ∧ (nI (sLg g p) = (1 : Int32) <<< (nI m &&& 31) → _)
          rw [ef]
          refine pk_ne (sLg g p) (2 ^ m) (fun w => b231_165 ?_) (fun w => ?_) rfl rfl (by have := sLg_lt g p; omega) (by omega)
          · have qq := arr false (decide_eq_false w).symm
            exact qq
          · have qq := arr true (decide_eq_true w).symm
            exact qq
    subst hlv
    refine b231_109 (And.intro (vp_in_nI hp19 (by decide)) ?_)
    rw [hcl]
    exact key 9 0 _ _ rfl (by omega) (fun x => zup_eq) (fun x hx => by rw [zup_ne (by decide)]; exact hmk x hx) (fun x hx => by rw [zup_ne (by decide)]) (fun m' hm' => absurd hm' (Nat.not_lt_zero _)) (fun x hx => by rw [zup_ne (by decide)]) (zFr_up (zFr_0 _ _) rfl)
  refine zin0 rfl rfl rfl (b231_0 (And.intro (vp_in_nI hp19 (by decide)) ?_))
  rw [hcl, h46, sWork_mov hw]
  refine khp hg (fun c => b231_44 ?_) (fun c => And.intro (by decide) ?_)
  · have scan : ∀ j i (v : Option Value), i + j = sPl g → zQ G 231 (n + 2) post 50 [some (.ref 44), some (.int (nI p)), some (.int (nI (sMov g p))), some (.int (nI (sFB (fun k => decide (sCell p k = sMov g p + 1)) i))), some (.int (nI (sFB (fun k => decide (sCell p k = 0)) i))), some (.int (nI (p / 3 ^ i))), some (.int (nI i)), v] [] I L (zR1 q) := by
      intro j
      induction j with
      | zero =>
        intro i v hi
        refine b231_50 (k_boardPlaces hg c (pk_le (sPl g) i (fun _ => zP_lv (lv' := [some (.ref 44), some (.int (nI p)), some (.int (nI (sMov g p))), some (.int (nI (sFB (fun k => decide (sCell p k = sMov g p + 1)) i))), some (.int (nI (sLg g p))), none, none, none]) ?_ (moves _ _ (fun _ => by rw [show i = sPl g by omega]) (Nat.lt_of_lt_of_le (sFB_lt _ i) (Nat.pow_le_pow_right (n := 2) (j := 9) (by decide) (by omega))) rfl)) (fun z => absurd z (by omega)) rfl rfl (by omega) (by omega)))
        refine ⟨rfl, rfl, rfl, rfl, ?_, trivial⟩
        congr 2
        have hi' : i = sPl g := by omega
        subst hi'
        unfold sLg
        rw [show (9 : Nat) = sPl g + (9 - sPl g) by omega, sFB_more (9 - sPl g) (fun k hk => ?_)]
        · refine sFB_ext _ fun k hk => ?_
          unfold sCan sMM
          rw [if_neg (by omega), if_neg (by omega), decide_eq_true hk]
          rfl
        · unfold sCan sMM
          rw [if_neg (by omega), decide_eq_false (by omega)]
          rfl
      | succ j ih =>
        intro i v hi
        have hi9 : i < 9 := by omega
        have hd := Nat.div_le_self p (3 ^ i)
        have e3 : nI (p / 3 ^ i) - nI (p / 3 ^ i) / 3 * 3 = nI (sCell p i) := pk_rem (d := 3) (by omega) (by decide) (by decide)
        have e4 : nI (p / 3 ^ i) / 3 = nI (p / 3 ^ (i + 1)) := by
          rw [show nI (p / 3 ^ i) / 3 = nI (p / 3 ^ i / 3) from pk_div (d := 3) (by omega) (by decide) (by decide), Nat.div_div_eq_div_mul, Nat.pow_succ]
        have hc3 := sCell_lt3 p i
        have nxt : ∀ (own free : Int32), own = nI (sFB (fun k => decide (sCell p k = sMov g p + 1)) (i + 1)) → free = nI (sFB (fun k => decide (sCell p k = 0)) (i + 1)) → zQ G 231 (n + 2) post 97 [some (.ref 44), some (.int (nI p)), some (.int (nI (sMov g p))), some (.int own), some (.int free), some (.int (nI (p / 3 ^ i))), some (.int (nI i)), some (.int (nI (sCell p i)))] [] I L (zR1 q) := by
          intro own free h1 h2
          subst h1 h2
          refine b231_97 (And.intro (by decide) ?_)
          have qq := fun v => ih (i + 1) v (by omega)
          rw [← nI_1, ← e4] at qq
          exact qq _
        refine b231_50 (k_boardPlaces hg c (pk_le (sPl g) i (fun z => absurd z (by omega)) (fun _ => And.intro (by decide) ?_) rfl rfl (by omega) (by omega)))
        rw [e3]
        have keep : ∀ {f : Nat → Bool}, f i = false → nI (sFB f i) = nI (sFB f (i + 1)) := fun hf => by rw [sFB, hf]; rfl
        refine pk_ne (sCell p i) 0 (fun d => b231_82 ?_) (fun d => ?_) rfl rfl (by omega) (by omega)
        · have e5 : nI (sMov g p) + 1 = nI (sMov g p + 1) := nI_1 _
          refine pk_ne (sCell p i) (sMov g p + 1) (fun d2 => nxt _ _ (keep (decide_eq_false d2)) (keep (decide_eq_false d))) (fun d2 => ?_) rfl e5 (by omega) (by omega)
          exact nxt _ _ (by rw [zshl1 (by omega), sFB_or hi9 (decide_eq_true d2)]) (keep (decide_eq_false d))
        · exact nxt _ _ (keep (decide_eq_false (by omega))) (by rw [zshl1 (by omega), sFB_or hi9 (decide_eq_true d)])
    have qq := scan (sPl g) 0 none (by omega)
    rw [show p / 3 ^ 0 = p by rw [Nat.pow_zero, Nat.div_one]] at qq
    exact qq
  · have h6 := hg.1.2.2.2.2.2.2.1
    have hh : p / 2 ≤ g 5 := (sR_ok hg.1 hr).2 c
    have e2 : nI p / 2 = nI (p / 2) := pk_div (d := 2) (by omega) (by decide) (by decide)
    have e6 : (if nI p / 2 < I 45 4 then nI p / 2 else I 45 4) = nI (min (g 6) (p / 2)) := by
      rw [e2, (hg.2.2.2.2 c).1]
      by_cases w : p / 2 < g 6
      · rw [if_pos ((nI_ltI (by omega) (by omega)).mpr w), show min (g 6) (p / 2) = p / 2 by omega]
      · rw [if_neg (fun z => w ((nI_ltI (by omega) (by omega)).mp z)), show min (g 6) (p / 2) = g 6 by omega]
    have e7 : sLg g p = sFB (fun m => decide (m < min (g 6) (p / 2))) 9 := by
      unfold sLg
      refine sFB_ext 9 fun m _ => ?_
      unfold sCan sMM
      rw [if_pos c, if_pos c, ← Bool.decide_and]
      exact decide_eq_decide.mpr ⟨fun z => by omega, fun z => by omega⟩
    have e8 : ((1 : Int32) <<< ((if nI p / 2 < I 45 4 then nI p / 2 else I 45 4) &&& 31)) - 1 = nI (sLg g p) := by
      rw [e6, e7]
      generalize hj : min (g 6) (p / 2) = j
      have hj3 : j < 4 := by omega
      exact (by decide +kernel : ∀ j, j < 4 → ((1 : Int32) <<< (nI j &&& 31)) - 1 = nI (sFB (fun m => decide (m < j)) 9)) j hj3
    exact moves 0 _ (fun z => by omega) (by decide) (by rw [← e8]; rfl)
end
