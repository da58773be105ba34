-- ===== the reference: a rule told =====
/-- amounts by the end, whether times, the refill -/
abbrev zrS : Type := (Nat → Int) × (Nat → Bool) × Nat
def tStar (tx : Nat → Nat) (n : Nat) (s : zrS) (k : Nat) (v : Int) (p : Nat) : zpr zrS := if tH tx n p = some 42 then (some (fup s.1 k v, fup s.2.1 k true, s.2.2), p + 1) else (some (fup s.1 k v, fup s.2.1 k false, s.2.2), p)
def tKnd (tx : Nat → Nat) (n a : Nat) : Option Nat := if tH tx n a = some 119 then some 2 else if tH tx n a = some 100 then some 1 else if tH tx n a = some 108 then some 0 else none
def tLine (tx : Nat → Nat) (n : Nat) (s : zrS) (a : Nat) : zpr zrS := if tH tx n a = some 101 then zbd (tNum tx n (a + 1)) fun v p => (some (s.1, s.2.1, v), p) else match tKnd tx n a with
  | none => (none, a)
  | some k => if tH tx n (a + 1) = some 43 then zbd (tNum tx n (a + 2)) fun v p => tStar tx n s k (v : Int) p else if tH tx n (a + 1) = some 45 then zbd (tNum tx n (a + 2)) fun v p => tStar tx n s k (-(v : Int)) p else (none, a + 1)
def tRule (tx : Nat → Nat) (n : Nat) : Nat → zrS → Nat → zpr zrS
  | 0, _, a => (none, a)
  | f + 1, s, a => zbd (tLine tx n s a) fun s p => if tH tx n p = some 59 then tRule tx n f s (p + 1) else tEnd n s p
def sRlA (rl : zrl) (nr : Nat) (s : zrS) : zrl := (fup rl.1 nr s.1, fup rl.2.1 nr s.2.1, fup rl.2.2 nr s.2.2)
def rsOk (s : zrS) : Prop := (∀ k, k < 3 → -99 ≤ s.1 k ∧ s.1 k ≤ 99) ∧ s.2.2 ≤ 99
section
variable {G : zG} {n : Nat} {I : zI} {L : zL} {q : zq} {post : zPo} {g : zg} {c : sC} {tx : Nat → Nat} {tn nr : Nat} {rl : zrl} {ru : Option Nat}
/-- the rule that is being told -/
def mRs (nr : Nat) (s : zrS) (I : zI) : Prop := (∀ k, k < 3 → I 7 (3 * nr + k) = iI (s.1 k) ∧ I 8 (3 * nr + k) = zbo (s.2.1 k)) ∧ I 9 nr = nI s.2.2
def tRl (nr o k : Nat) : Bool := (Nat.beq o 0 && (Nat.beq k 40 || Nat.beq k 41)) || ((Nat.beq o 7 || Nat.beq o 8) && Nat.ble (3 * nr) k) || (Nat.beq o 9 && Nat.ble nr k)
theorem tRl_7 {nr k : Nat} (h : 3 * nr ≤ k) : tRl nr 7 k = true := by
  unfold tRl
  rw [show Nat.ble (3 * nr) k = true from Nat.ble_eq.mpr h]
  rfl
theorem tRl_8 {nr k : Nat} (h : 3 * nr ≤ k) : tRl nr 8 k = true := by
  unfold tRl
  rw [show Nat.ble (3 * nr) k = true from Nat.ble_eq.mpr h]
  rfl
theorem tRl_9 {nr k : Nat} (h : nr ≤ k) : tRl nr 9 k = true := by
  unfold tRl
  rw [show Nat.ble nr k = true from Nat.ble_eq.mpr h]
  rfl
theorem mRs_fr {s : zrS} {I' : zI} (h : mRs nr s I) (h7 : I' 7 = I 7) (h8 : I' 8 = I 8) (h9 : I' 9 = I 9) : mRs nr s I' := by
  unfold mRs
  rw [h7, h8, h9]
  exact h
theorem tNum_bd {a v p : Nat} (h : tNum tx tn a = (some v, p)) : v ≤ 99 ∧ a < p := by
  unfold tNum at h
  cases q : tDig tx tn 48 57 a with
  | mk o a1 =>
    rw [q] at h
    cases o with
    | none => injection h with h1 _; cases h1
    | some d =>
      have hb := tDig_bd q
      have ha1 : a1 = a + 1 := by
        unfold tDig at q
        cases q2 : tH tx tn a with
        | none => rw [q2] at q; injection q with h1 _; cases h1
        | some b =>
          rw [q2] at q
          dsimp only at q
          split at q
          · injection q with _ h2; exact h2.symm
          · injection q with h1 _; cases h1
      have h : (match tH tx tn a1 with
        | some b => if 48 ≤ b ∧ b ≤ 57 then (some (10 * d + (b - 48)), a1 + 1) else (some d, a1)
        | none => (some d, a1)) = (some v, p) := h
      cases q3 : tH tx tn a1 with
      | none =>
        rw [q3] at h
        injection h with h1 h2
        injection h1 with h1
        omega
      | some b =>
        rw [q3] at h
        dsimp only at h
        split at h
        · injection h with h1 h2
          injection h1 with h1
          omega
        · injection h with h1 h2
          injection h1 with h1
          omega
theorem c_ruleLine {s : zrS} {a : Nat} (hn8 : nr < 8) (h18 : I 0 18 = nI nr) (hp : mPr tx tn a none I) (hs : mRs nr s I) (hok : rsOk s) (h1 : ∀ s' p, tLine tx tn s a = (some s', p) → rsOk s' → a < p → p ≤ 41 → ∀ I' : zI, mPr tx tn p none I' → mRs nr s' I' → zFr (tRl nr) I I' → post none I' L (zR1 q)) (h0 : ∀ e, tLine tx tn s a = (none, e) → ∀ (p : Nat) (I' : zI), mPr tx tn p (some e) I' → zFr (tRl nr) I I' → post none I' L (zR1 q)) : zC G (n + 5) 55 [.ref 0] I L (zR1 q) post := by
  have h40 : I 0 40 = nI a := hp.2.2.1
  have ha60 := hp.2.2.2.1
  have e101 := tHv_eq hp (c := 101) (by decide)
  have e119 := tHv_eq hp (c := 119) (by decide)
  have e100 := tHv_eq hp (c := 100) (by decide)
  have e108 := tHv_eq hp (c := 108) (by decide)
  refine zin0 rfl rfl rfl (b55_0 (c_here hp ?_))
  show (¬ tHv tx tn a = nI 101 → _) ∧ (tHv tx tn a = nI 101 → _)
  refine And.intro (fun z => b55_35 ?_) (fun z => ?_)
  · have z' : tH tx tn a ≠ some 101 := fun w => z (e101.mpr w)
    have eL : tLine tx tn s a = match tKnd tx tn a with
      | none => (none, a)
      | some k => if tH tx tn (a + 1) = some 43 then zbd (tNum tx tn (a + 2)) fun v p => tStar tx tn s k (v : Int) p else if tH tx tn (a + 1) = some 45 then zbd (tNum tx tn (a + 2)) fun v p => tStar tx tn s k (-(v : Int)) p else (none, a + 1) := by unfold tLine; rw [if_neg z']
    -- the kind known
    have p66 : ∀ k : Nat, k < 3 → tKnd tx tn a = some k → a < 40 → zQ G 55 (n + 4) post 66 [some (.ref 0), some (.int (tHv tx tn a)), none, none, none] [.int (nI k)] I L (zR1 q) := by
      intro k hk hK ha40
      rw [hK] at eL
      dsimp only at eL
      have hp1 := mPr_at hp (a' := a + 1) (by omega)
      have k3 : (3 : Int32) * nI nr + nI k = nI (3 * nr + k) := by rw [show (3 : Int32) = nI 3 from rfl, pk_mul, nI_add]
      have f43 := tHv_eq hp1 (c := 43) (by decide)
      have f45 := tHv_eq hp1 (c := 45) (by decide)
      refine b55_66 (And.intro (fun _ => b55_81 (And.intro rfl ?_)) (fun w => absurd w (zon_ne (by omega))))
      show zC G (n + 4) 45 [.ref 0] (zup I 0 40 (I 0 40 + 1)) L (zR1 q) _
      rw [h40, nI_1]
      obtain ⟨J, hJ⟩ : ∃ J : zI, J = zup I 0 40 (nI (a + 1)) := ⟨_, rfl⟩
      have hfJ : zFr (tRl nr) I J := by rw [hJ]; exact zFr_up (zFr_0 _ _) rfl
      have h18J : J 0 18 = nI nr := by rw [hJ]; exact h18
      have hsJ : mRs nr s J := by rw [hJ]; exact mRs_fr hs (zup_ne (by decide)) (zup_ne (by decide)) (zup_ne (by decide))
      rw [← hJ] at hp1 ⊢
      have hJ40 : J 0 40 = nI (a + 1) := hp1.2.2.1
      refine c_here hp1 ?_
      -- the sign known
      have p117 : ∀ sg : Bool, tH tx tn (a + 1) = some (if sg = true then 43 else 45) → tLine tx tn s a = (zbd (tNum tx tn (a + 2)) fun v p => tStar tx tn s k (if sg = true then (v : Int) else -(v : Int)) p) → zQ G 55 (n + 4) post 117 [some (.ref 0), some (.int (tHv tx tn a)), some (.int (nI k)), some (.int (tHv tx tn (a + 1))), none] [] J L (zR1 q) := by
        intro sg hsg eL
        have hlt := (tH_lt hp1 hsg).2.2
        refine b55_117 (And.intro rfl ?_)
        show zC G (n + 4) 51 [.ref 0] (zup J 0 40 (J 0 40 + 1)) L (zR1 q) _
        rw [hJ40, nI_1]
        have hp2 := mPr_at hp1 (a' := a + 1 + 1) (by omega)
        obtain ⟨K, hK2⟩ : ∃ K : zI, K = zup J 0 40 (nI (a + 1 + 1)) := ⟨_, rfl⟩
        have hfK : zFr (tRl nr) I K := by rw [hK2]; exact zFr_up hfJ rfl
        have h18K : K 0 18 = nI nr := by rw [hK2]; exact h18J
        have hsK : mRs nr s K := by rw [hK2]; exact mRs_fr hsJ (zup_ne (by decide)) (zup_ne (by decide)) (zup_ne (by decide))
        rw [← hK2] at hp2 ⊢
        have i3e : (tHv tx tn (a + 1) = 43) ↔ sg = true := by
          show tHv tx tn (a + 1) = nI 43 ↔ _
          rw [f43, hsg]
          cases sg with
          | true => exact ⟨fun _ => rfl, fun _ => rfl⟩
          | false => exact ⟨fun w => (by injection w with w; cases w), fun w => by cases w⟩
        -- writing
        have fin : ∀ (v : Int32) (M : zI) (wo : Option Nat) (p : Nat), mPr tx tn p wo M → M 0 18 = nI nr → (∀ (b : Bool) (M2 : zI), (wo = none → (b = true ↔ tH tx tn p = some 42)) → (wo ≠ none → b = false) → M2 = (if b = true then zup (zup M 7 (3 * nr + k) (if sg = true then v else -v)) 0 40 (nI (p + 1)) else zup M 7 (3 * nr + k) (if sg = true then v else -v)) → post none (zup M2 8 (3 * nr + k) (zbo b)) L (zR1 q)) → zQ G 55 (n + 4) post 159 [some (.ref 0), some (.int (tHv tx tn a)), some (.int (nI k)), some (.int (tHv tx tn (a + 1))), some (.int v)] [.int (if sg = true then v else -v), .int (nI (3 * nr + k)), .ref 7] M L (zR1 q) := by
          intro v M wo p hpM h18M hpost
          have inr : vp_in (nI (3 * nr + k)) 24 := vp_in_nI (by omega) (by decide)
          have ecr : (nI (3 * nr + k)).toNatClampNeg = 3 * nr + k := nI_clamp (by omega)
          refine b55_159 (And.intro inr ?_)
          rw [ecr]
          obtain ⟨M1, hM1⟩ : ∃ M1 : zI, M1 = zup M 7 (3 * nr + k) (if sg = true then v else -v) := ⟨_, rfl⟩
          have hpM1 : mPr tx tn p wo M1 := by
            rw [hM1]
            obtain ⟨b1, b2, b3, b4, b5, b6, b7⟩ := hpM
            exact ⟨b1, b2, b3, b4, b5, b6, fun j hj => by rw [zup_ne (by decide)]; exact b7 j hj⟩
          have h18M1 : M1 0 18 = nI nr := by rw [hM1]; exact h18M
          rw [← hM1] at hpost
          have p193 : ∀ (b : Bool) (M2 : zI), post none (zup M2 8 (3 * nr + k) (zbo b)) L (zR1 q) → zQ G 55 (n + 4) post 193 [some (.ref 0), some (.int (tHv tx tn a)), some (.int (nI k)), some (.int (tHv tx tn (a + 1))), some (.int v)] [.int (zbo b), .int (nI (3 * nr + k)), .ref 8] M2 L (zR1 q) := by
            intro b M2 hh
            refine b55_193 (And.intro inr ?_)
            show post none (zup M2 8 (nI (3 * nr + k)).toNatClampNeg (vp_nar .boolean (zbo b))) L (zR1 q)
            rw [ecr, zbo_nar2]
            exact hh
          have ek : (3 : Int32) * M1 0 18 + nI k = nI (3 * nr + k) := by rw [h18M1, k3]
          rw [← hM1]
          refine c_fine hpM1 ?_
          cases wo with
          | some e =>
            refine And.intro (fun _ => b55_192 ?_) (fun w => absurd rfl w)
            have qq := p193 false M1 (hpost false M1 (fun w => by cases w) (fun _ => rfl) rfl)
            rw [← ek] at qq
            exact qq
          | none =>
            refine And.intro (fun w => absurd w (by decide)) (fun _ => c_passes (c := 42) rfl hpM1 (by decide) (fun z2 => And.intro (fun w => absurd w (by decide)) (fun _ => ?_)) (fun z2 => And.intro (fun _ => b55_192 ?_) (fun w => absurd rfl w)))
            · have qq := p193 true _ (hpost true _ (fun _ => ⟨fun _ => z2, fun _ => rfl⟩) (fun w => absurd rfl w) rfl)
              rw [← ek] at qq
              exact qq
            · have qq := p193 false M1 (hpost false M1 (fun _ => ⟨(fun w => by cases w), fun w => absurd w z2⟩) (fun _ => rfl) rfl)
              rw [← ek] at qq
              exact qq
        -- to 159
        have to159 : ∀ (v : Int32) (M : zI), M 0 18 = nI nr → zQ G 55 (n + 4) post 159 [some (.ref 0), some (.int (tHv tx tn a)), some (.int (nI k)), some (.int (tHv tx tn (a + 1))), some (.int v)] [.int (if sg = true then v else -v), .int (nI (3 * nr + k)), .ref 7] M L (zR1 q) → (¬ tHv tx tn (a + 1) = 43 → zQ G 55 (n + 4) post 156 [some (.ref 0), some (.int (tHv tx tn a)), some (.int (nI k)), some (.int (tHv tx tn (a + 1))), some (.int v)] [.int (3 * M 0 18 + nI k), .ref 7] M L (zR1 q)) ∧ (tHv tx tn (a + 1) = 43 → zQ G 55 (n + 4) post 159 [some (.ref 0), some (.int (tHv tx tn a)), some (.int (nI k)), some (.int (tHv tx tn (a + 1))), some (.int v)] [.int v, .int (3 * M 0 18 + nI k), .ref 7] M L (zR1 q)) := by
          intro v M h18M hq
          rw [h18M, k3]
          refine ⟨fun w => b55_156 ?_, fun w => ?_⟩
          · rw [if_neg (fun x => w (i3e.mpr x))] at hq
            exact hq
          · rw [if_pos (i3e.mp w)] at hq
            exact hq
        have hsum : ∀ (b : Bool) (M M2 : zI) (x : Int32) (p : Nat), zFr (tRl nr) I M → M2 = (if b = true then zup (zup M 7 (3 * nr + k) x) 0 40 (nI (p + 1)) else zup M 7 (3 * nr + k) x) → zFr (tRl nr) I (zup M2 8 (3 * nr + k) (zbo b)) := by
          intro b M M2 x p hfM hM2
          refine zFr_up ?_ (tRl_8 (by omega))
          rw [hM2]
          cases b with
          | true => exact zFr_up (zFr_up hfM (tRl_7 (by omega))) rfl
          | false => exact zFr_up hfM (tRl_7 (by omega))
        refine c_number hp2 (fun v p hN hv99 hap hp40 => ?_) (fun hN => ?_)
        · rw [show a + 2 = a + 1 + 1 from rfl, hN] at eL
          have eL : tLine tx tn s a = tStar tx tn s k (if sg = true then (v : Int) else -(v : Int)) p := eL
          have hpK := mPr_at hp2 (a' := p) (by omega)
          refine to159 (nI v) _ h18K (fin (nI v) _ none p hpK h18K fun b M2 hb _ hM2 => ?_)
          have hb := hb rfl
          have ex : (if sg = true then nI v else -(nI v)) = iI (if sg = true then (v : Int) else -(v : Int)) := by
            cases sg with
            | true => rfl
            | false => exact iI_neg (v : Int)
          have hbd : -99 ≤ (if sg = true then (v : Int) else -(v : Int)) ∧ (if sg = true then (v : Int) else -(v : Int)) ≤ 99 := by split <;> omega
          unfold tStar at eL
          have hfr := hsum b _ M2 (if sg = true then nI v else -(nI v)) p (zFr_up (k := 40) (v := nI p) hfK rfl) hM2
          have mrs : ∀ (bb : Bool) (p' : Nat) (N : zI), (∀ j, N 7 j = if j = 3 * nr + k then iI (if sg = true then (v : Int) else -(v : Int)) else K 7 j) → (∀ j, N 8 j = if j = 3 * nr + k then zbo bb else K 8 j) → N 9 = K 9 → mRs nr (fup s.1 k (if sg = true then (v : Int) else -(v : Int)), fup s.2.1 k bb, s.2.2) N := by
            intro bb p' N h7 h8 h9
            refine ⟨fun j hj => ?_, by rw [h9]; exact hsK.2⟩
            have c1 := h7 (3 * nr + j)
            have c2 := h8 (3 * nr + j)
            by_cases d : j = k
            · subst d
              rw [if_pos rfl] at c1 c2
              refine ⟨c1.trans ?_, c2.trans ?_⟩
              · show _ = iI (fup s.1 j _ j)
                rw [fup_s]
              · show _ = zbo (fup s.2.1 j bb j)
                rw [fup_s]
            · rw [if_neg (by omega)] at c1 c2
              refine ⟨c1.trans ?_, c2.trans ?_⟩
              · show _ = iI (fup s.1 k _ j)
                rw [fup_n d]
                exact (hsK.1 j hj).1
              · show _ = zbo (fup s.2.1 k bb j)
                rw [fup_n d]
                exact (hsK.1 j hj).2
          have rok : ∀ bb : Bool, rsOk (fup s.1 k (if sg = true then (v : Int) else -(v : Int)), fup s.2.1 k bb, s.2.2) := by
            intro bb
            refine ⟨fun j hj => ?_, hok.2⟩
            show -99 ≤ fup s.1 k _ j ∧ fup s.1 k _ j ≤ 99
            unfold fup
            split
            · exact hbd
            · exact hok.1 j hj
          have keepP : ∀ (p' : Nat) (N : zI), N 0 39 = K 0 39 → N 0 41 = K 0 41 → N 0 40 = nI p' → p' ≤ 60 → N 16 = K 16 → mPr tx tn p' none N := by
            intro p' N x1 x2 x3 x4 x5
            obtain ⟨b1, b2, b3, b4, b5, b6, b7⟩ := hp2
            exact ⟨x1.trans b1, b2, x3, x4, x2.trans b5, b6, fun j hj => by rw [x5]; exact b7 j hj⟩
          by_cases z2 : tH tx tn p = some 42
          · rw [if_pos z2] at eL
            have hbt := hb.mpr z2
            subst hbt
            have hM2 : M2 = zup (zup (zup K 0 40 (nI p)) 7 (3 * nr + k) (if sg = true then nI v else -(nI v))) 0 40 (nI (p + 1)) := hM2
            refine h1 _ _ eL (rok true) (by omega) (by omega) _ (keepP (p + 1) _ ?_ ?_ ?_ (by omega) ?_) (mrs true p _ (fun j => ?_) (fun j => ?_) ?_) hfr
            · rw [hM2]; rfl
            · rw [hM2]; rfl
            · rw [hM2, zup_ne (by decide), zup_self]
            · rw [hM2, zup_ne (by decide), zup_ne (by decide), zup_ne (by decide), zup_ne (by decide)]
            · rw [hM2, zup_ne (by decide), zup_ne (by decide), zup_eq, ex, zup_ne (by decide)]
            · rw [hM2, zup_eq, zup_ne (by decide), zup_ne (by decide), zup_ne (by decide)]
            · rw [hM2, zup_ne (by decide), zup_ne (by decide), zup_ne (by decide), zup_ne (by decide)]
          · rw [if_neg z2] at eL
            have hbf : b = false := by
              cases b with
              | false => rfl
              | true => exact absurd (hb.mp rfl) z2
            subst hbf
            have hM2 : M2 = zup (zup K 0 40 (nI p)) 7 (3 * nr + k) (if sg = true then nI v else -(nI v)) := hM2
            refine h1 _ _ eL (rok false) (by omega) (by omega) _ (keepP p _ ?_ ?_ ?_ (by omega) ?_) (mrs false p _ (fun j => ?_) (fun j => ?_) ?_) hfr
            · rw [hM2]; rfl
            · rw [hM2]; rfl
            · rw [hM2, zup_ne (by decide), zup_ne (by decide), zup_self]
            · rw [hM2, zup_ne (by decide), zup_ne (by decide), zup_ne (by decide)]
            · rw [hM2, zup_ne (by decide), zup_eq, ex, zup_ne (by decide)]
            · rw [hM2, zup_eq, zup_ne (by decide), zup_ne (by decide)]
            · rw [hM2, zup_ne (by decide), zup_ne (by decide), zup_ne (by decide)]
        · rw [show a + 2 = a + 1 + 1 from rfl, hN] at eL
          have eL : tLine tx tn s a = (none, a + 1 + 1) := eL
          have hpK := mPr_wr hp2 (e := a + 1 + 1) (by omega)
          refine to159 0 _ h18K (fin 0 _ (some (a + 1 + 1)) (a + 1 + 1) hpK h18K fun b M2 _ hb hM2 => ?_)
          have hb := hb (fun w => by cases w)
          have hfr := hsum b _ M2 (if sg = true then 0 else -0) (a + 1 + 1) (zFr_up (k := 41) (v := nI (a + 1 + 1)) hfK rfl) hM2
          subst hb
          have hM2 : M2 = zup (zup K 0 41 (nI (a + 1 + 1))) 7 (3 * nr + k) (if sg = true then 0 else -0) := hM2
          refine h0 _ eL (a + 1 + 1) _ ?_ hfr
          obtain ⟨b1, b2, b3, b4, b5, b6, b7⟩ := hpK
          rw [hM2]
          exact ⟨b1, b2, b3, b4, b5, b6, fun j hj => by rw [zup_ne (by decide), zup_ne (by decide)]; exact b7 j hj⟩
      show (tHv tx tn (a + 1) = nI 43 → _) ∧ (¬ tHv tx tn (a + 1) = nI 43 → _)
      refine And.intro (fun z => p117 true (f43.mp z) (by rw [eL, if_pos (f43.mp z)]; rfl)) (fun z => ?_)
      show (tHv tx tn (a + 1) = nI 45 → _) ∧ (¬ tHv tx tn (a + 1) = nI 45 → _)
      have z43 : tH tx tn (a + 1) ≠ some 43 := fun w => z (f43.mpr w)
      refine And.intro (fun z2 => p117 false (f45.mp z2) (by rw [eL, if_neg z43, if_pos (f45.mp z2)]; rfl)) (fun z2 => c_isWrong hJ40 hp1 ?_)
      refine h0 (a + 1) (by rw [eL, if_neg z43, if_neg (fun w => z2 (f45.mpr w))]) (a + 1) _ (mPr_wr hp1 (by omega)) (zFr_up hfJ rfl)
    refine And.intro (fun z2 => b55_45 ?_) (fun z2 => ?_)
    · show (¬ tHv tx tn a = nI 100 → _) ∧ (tHv tx tn a = nI 100 → _)
      have y119 : tH tx tn a ≠ some 119 := fun w => z2 (e119.mpr w)
      refine And.intro (fun z3 => b55_55 ?_) (fun z3 => p66 1 (by omega) (by unfold tKnd; rw [if_neg y119, if_pos (e100.mp z3)]) (tH_lt hp (e100.mp z3)).2.2)
      show (¬ tHv tx tn a = nI 108 → _) ∧ (tHv tx tn a = nI 108 → _)
      have y100 : tH tx tn a ≠ some 100 := fun w => z3 (e100.mpr w)
      refine And.intro (fun z4 => b55_65 ?_) (fun z4 => p66 0 (by omega) (by unfold tKnd; rw [if_neg y119, if_neg y100, if_pos (e108.mp z4)]) (tH_lt hp (e108.mp z4)).2.2)
      have eK : tKnd tx tn a = none := by unfold tKnd; rw [if_neg y119, if_neg y100, if_neg (fun w => z4 (e108.mpr w))]
      rw [eK] at eL
      refine b55_66 (And.intro (fun w => absurd rfl w) (fun _ => c_isWrong h40 hp ?_))
      exact h0 a eL a _ (mPr_wr hp ha60) (zFr_up (zFr_0 _ _) rfl)
    · exact p66 2 (by omega) (by unfold tKnd; rw [if_pos (e119.mp z2)]) (tH_lt hp (e119.mp z2)).2.2
  · have z' := e101.mp z
    have ha40 := (tH_lt hp z').2.2
    have eL : tLine tx tn s a = zbd (tNum tx tn (a + 1)) fun v p => (some (s.1, s.2.1, v), p) := by unfold tLine; rw [if_pos z']
    have hp1 := mPr_at hp (a' := a + 1) (by omega)
    have vr : vp_in (nI nr) 8 := vp_in_nI hn8 (by decide)
    have ecr : (nI nr).toNatClampNeg = nr := nI_clamp (by omega)
    refine And.intro rfl ?_
    show zC G (n + 4) 51 [.ref 0] (zup I 0 40 (I 0 40 + 1)) L (zR1 q) _
    rw [h40, nI_1]
    have e18 : zup I 0 40 (I 0 40 + 1) 0 18 = nI nr := h18
    refine c_number hp1 (fun v p hN hv hap hp40 => ?_) (fun hN => ?_)
    · rw [hN] at eL
      refine And.intro (by show vp_in (I 0 18) 8; rw [h18]; exact vr) ?_
      show post none (zup (zup (zup I 0 40 (nI (a + 1))) 0 40 (nI p)) 9 (I 0 18).toNatClampNeg (nI v)) L (zR1 q)
      rw [h18, ecr, zup_zup]
      refine h1 (s.1, s.2.1, v) p eL ⟨hok.1, hv⟩ (by omega) (by omega) _ ?_ ⟨fun j hj => ?_, by rw [zup_self]⟩ (zFr_up (zFr_up (zFr_0 _ _) rfl) (tRl_9 (Nat.le_refl _)))
      · obtain ⟨b1, b2, b3, b4, b5, b6, b7⟩ := mPr_at hp (a' := p) (by omega)
        exact ⟨b1, b2, b3, b4, b5, b6, fun j hj => by rw [zup_ne (by decide)]; exact b7 j hj⟩
      · rw [zup_ne (by decide), zup_ne (by decide), zup_ne (by decide), zup_ne (by decide)]
        exact hs.1 j hj
    · rw [hN] at eL
      refine And.intro (by show vp_in (I 0 18) 8; rw [h18]; exact vr) ?_
      show post none (zup (zup (zup I 0 40 (nI (a + 1))) 0 41 (nI (a + 1))) 9 (I 0 18).toNatClampNeg 0) L (zR1 q)
      rw [h18, ecr]
      refine h0 (a + 1) eL (a + 1) _ ?_ (zFr_up (zFr_up (zFr_up (zFr_0 _ _) rfl) rfl) (tRl_9 (Nat.le_refl _)))
      obtain ⟨b1, b2, b3, b4, b5, b6, b7⟩ := mPr_wr hp1 (e := a + 1) (by omega)
      exact ⟨b1, b2, b3, b4, b5, b6, fun j hj => by rw [zup_ne (by decide)]; exact b7 j hj⟩
end
