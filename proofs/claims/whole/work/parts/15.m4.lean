-- ===== the reference: work, turns of the board, boxes =====
def sWork (g : zg) (p : Nat) : Nat :=
  if g 0 = 1 then (if 0 < p / 2 then sMov g p else 2 + (if g 4 = 0 then 1 - sMov g p else sMov g p))
  else if sRow g p (1 - sMov g p + 1) = true then 2 + (if g 4 = 0 then 1 - sMov g p else sMov g p)
  else if sStn g p = sPl g then 4 else sMov g p
theorem sWork_le (g : zg) (p : Nat) : sWork g p ≤ 4 := by
  have := sMov_le g p
  unfold sWork
  repeat' split
  all_goals omega
def sTurns (g : zg) : Nat := if g 7 = 0 then 1 else if g 0 = 1 then 1 else if g 1 = g 2 then 8 else 4
theorem sTurns_le (g : zg) : 1 ≤ sTurns g ∧ sTurns g ≤ 8 := by
  unfold sTurns
  repeat' split
  all_goals omega
theorem sTurns_sq {g : zg} {t : Nat} (h : t < sTurns g) (h4 : 4 ≤ t) : g 1 = g 2 := by
  unfold sTurns at h
  split at h
  · omega
  · split at h
    · omega
    · split at h
      · assumption
      · omega
theorem sTurns_b {g : zg} {t : Nat} (h : t < sTurns g) (h0 : t ≠ 0) : ¬ g 0 = 1 := by
  intro c
  unfold sTurns at h
  rw [if_pos c] at h
  split at h <;> omega
/-- the place k turned -/
def sTd (g : zg) (k t : Nat) : Nat :=
  g 1 * (if t / 2 % 2 = 1 then g 2 - 1 - (if t < 4 then k / g 1 else k % g 1) else (if t < 4 then k / g 1 else k % g 1)) + (if t % 2 = 1 then g 1 - 1 - (if t < 4 then k % g 1 else k / g 1) else (if t < 4 then k % g 1 else k / g 1))
theorem sTd_lt {g : zg} {k t : Nat} (hg : gOk g) (hk : k < sPl g) (h4 : 4 ≤ t → g 1 = g 2) : sTd g k t < sPl g := by
  obtain ⟨-, ⟨w1, w2⟩, ⟨v1, v2⟩, -⟩ := id hg
  have a1 : k % g 1 < g 1 := Nat.mod_lt _ w1
  have a2 : k / g 1 < g 2 := Nat.div_lt_of_lt_mul hk
  unfold sTd sPl
  generalize k % g 1 = a at *
  generalize k / g 1 = b at *
  have key : ∀ x y : Nat, x < g 1 → y < g 2 → g 1 * y + x < g 1 * g 2 := fun x y hx hy => by
    have : g 1 * (y + 1) ≤ g 1 * g 2 := Nat.mul_le_mul_left _ hy
    rw [Nat.mul_succ] at this
    omega
  apply key
  · repeat' split
    all_goals first | omega | (have := h4 (by omega); omega)
  · repeat' split
    all_goals first | omega | (have := h4 (by omega); omega)
/-- the position turned -/
def sTPk (g : zg) (p t : Nat) : Nat → Nat
  | 0 => 0
  | i + 1 => sTPk g p t i + sCell p i * 3 ^ sTd g i t
def sTP (g : zg) (p t : Nat) : Nat := if t = 0 then p else sTPk g p t (sPl g)
theorem sTPk_le {g : zg} (hg : gOk g) {p t : Nat} (h4 : 4 ≤ t → g 1 = g 2) : ∀ i, i ≤ sPl g → sTPk g p t i ≤ 40000 * i
  | 0, _ => Nat.le_refl _
  | i + 1, hi => by
    have h := sTPk_le hg (p := p) h4 i (by omega)
    have hpl := sPl_pos hg
    have hd := sTd_lt hg (show i < sPl g by omega) h4
    obtain ⟨z1, z2⟩ := zpow_lt (sTd g i t) (by omega)
    have hc : sCell p i < 3 := Nat.mod_lt _ (by decide)
    have : sCell p i * 3 ^ sTd g i t ≤ 2 * 20000 := Nat.mul_le_mul (by omega) (by omega)
    show sTPk g p t i + sCell p i * 3 ^ sTd g i t ≤ _
    omega
theorem sTP_le {g : zg} (hg : gOk g) {p t : Nat} (hp : p < 19683) (h4 : 4 ≤ t → g 1 = g 2) : sTP g p t < 400000 := by
  have hpl := sPl_pos hg
  unfold sTP
  split
  · omega
  · have := sTPk_le hg (p := p) h4 (sPl g) (Nat.le_refl _)
    omega
/-- the turn that makes the least position, among the first t -/
def sTO (g : zg) (p : Nat) : Nat → Nat
  | 0 => 0
  | t + 1 => if t = 0 then 0 else if sTP g p t < sTP g p (sTO g p t) then t else sTO g p t
def sTurnOf (g : zg) (p : Nat) : Nat := sTO g p (sTurns g)
theorem sTO_lt (g : zg) (p : Nat) : ∀ t, 1 ≤ t → sTO g p t < t
  | 0, h => absurd h (by decide)
  | 1, _ => by unfold sTO; exact Nat.zero_lt_one
  | t + 2, _ => by
    have := sTO_lt g p (t + 1) (by omega)
    rw [sTO]
    repeat' split
    all_goals omega
def sBox (g : zg) (p : Nat) : Nat := sTP g p (sTurnOf g p)
theorem sTO_le (g : zg) (p : Nat) : ∀ t, sTP g p (sTO g p t) ≤ p
  | 0 => by unfold sTO sTP; rw [if_pos rfl]; exact Nat.le_refl _
  | t + 1 => by
    have h := sTO_le g p t
    rw [sTO]
    repeat' split
    · unfold sTP; rw [if_pos rfl]; exact Nat.le_refl _
    · omega
    · exact h
theorem sBox_le (g : zg) (p : Nat) : sBox g p ≤ p := sTO_le g p _
theorem sTurnOf_lt (g : zg) (p : Nat) : sTurnOf g p < sTurns g := sTO_lt g p _ (sTurns_le g).1
def sLed (g : zg) (m t : Nat) : Nat := if t = 0 then m else sTd g m t
/-- the least of the places that the turns of the box make of m, among the first t -/
def sLs (g : zg) (b m : Nat) : Nat → Nat
  | 0 => m
  | t + 1 => if t = 0 then m else if sTP g b t = b then min (sLs g b m t) (sTd g m t) else sLs g b m t
def sLeast (g : zg) (b m : Nat) : Nat := sLs g b m (sTurns g)
def sHas (g : zg) (b m : Nat) : Bool := sCan g b m && decide (sLeast g b m = m)
/-- the move of p that the box's move k is -/
def sMvk (g : zg) (p k : Nat) : Nat → Option Nat
  | 0 => none
  | i + 1 => match sMvk g p k i with
    | some m => some m
    | none => if sLed g i (sTurnOf g p) = k then some i else none
def zon (q : Option Nat) : Int32 := match q with
  | some k => nI k
  | none => -1
def sMvOf (g : zg) (p k : Nat) : Option Nat := sMvk g p k (sMM g)
def sAtB (g : zg) (p m : Nat) : Nat := 9 * sBox g p + sLeast g (sBox g p) (sLed g m (sTurnOf g p))
section
variable {G : zG} {n : Nat} {I : zI} {L : zL} {q : zq} {post : zPo} {g : zg}
theorem c_work {p : Nat} (hg : mG g I) (hp : pOk g p) (h : post (some (.int (nI (sWork g p)))) I L (zR1 q)) : zC G (n + 4) 14 [.ref 0, .int (nI p)] I L (zR1 q) post := by
  have hp1 := hp.1
  have hm := sMov_le g p
  have e4 : I 0 4 = nI (g 4) := mG0 hg 4 (by decide)
  have hg4 : g 4 ≤ 1 := hg.1.2.2.2.2.1
  have es : (1 : Int32) - nI (sMov g p) = nI (1 - sMov g p) := pk_sub (a := 1) hm
  refine zin0 rfl rfl rfl (b14_0 (c_mover hg hp ?_))
  refine zhp hg (fun c => ?_) (fun c => ?_)
  · refine b14_40 ?_
    refine c_hasRow (s := 1 - sMov g p + 1) (by rw [es, nI_1]) hg (by omega) (by omega) c ?_
    refine zbo_eq (fun z => ?_) (fun z => ?_)
    · refine b14_66 (c_stones hg (by omega) hp.2 (c_places hg ?_))
      have hs : sStn g p ≤ 9 := by unfold sStn; rw [if_neg (by omega)]; have := sCnt_le p (sPl g); have := sPl_pos hg.1; omega
      have hpl := sPl_pos hg.1
      have hw : sWork g p = if sStn g p = sPl g then 4 else sMov g p := by
        unfold sWork
        rw [if_neg (by omega), if_neg (by rw [z]; exact Bool.false_ne_true)]
      refine (fun z : _ ∧ _ => And.intro z.2 z.1) (pk_eq (sStn g p) (sPl g) (fun z2 => ?_) (fun z2 => ?_) rfl rfl (by omega) (by omega))
      · rw [hw, if_pos z2] at h
        exact b14_83 h
      · rw [hw, if_neg z2] at h
        exact b14_82 (b14_83 h)
    · have hw : sWork g p = 2 + (if g 4 = 0 then 1 - sMov g p else sMov g p) := by
        unfold sWork
        rw [if_neg (by omega), if_pos z]
      show (I 0 4 = 0 → _) ∧ (¬ I 0 4 = 0 → _)
      rw [e4]
      refine pk_eq (g 4) 0 (fun z2 => ?_) (fun z2 => ?_) rfl rfl (by omega) (by omega)
      · rw [hw, if_pos z2, ← nI_add, ← es] at h
        exact b14_63 (b14_64 h)
      · rw [hw, if_neg z2, ← nI_add] at h
        exact b14_64 h
  · refine And.intro (by decide) ?_
    have ed : nI p / 2 = nI (p / 2) := pk_div (d := 2) (by omega) (by decide) (by decide)
    refine pk_le (p / 2) 0 (fun z => ?_) (fun z => ?_) ed rfl (by omega) (by omega)
    · have hw : sWork g p = 2 + (if g 4 = 0 then 1 - sMov g p else sMov g p) := by
        unfold sWork
        rw [if_pos c, if_neg (by omega)]
      refine b14_25 ?_
      show (I 0 4 = 0 → _) ∧ (¬ I 0 4 = 0 → _)
      rw [e4]
      refine pk_eq (g 4) 0 (fun z2 => ?_) (fun z2 => ?_) rfl rfl (by omega) (by omega)
      · rw [hw, if_pos z2, ← nI_add, ← es] at h
        exact b14_37 (b14_38 h)
      · rw [hw, if_neg z2, ← nI_add] at h
        exact b14_38 h
    · have hw : sWork g p = sMov g p := by
        unfold sWork
        rw [if_pos c, if_pos (by omega)]
      rw [hw] at h
      exact h
theorem c_turns (hg : mG g I) (h : post (some (.int (nI (sTurns g)))) I L (zR1 q)) : zC G (n + 1) 19 [.ref 0] I L (zR1 q) post := by
  have e7 : I 0 7 = nI (g 7) := mG0 hg 7 (by decide)
  have h7 : g 7 ≤ 1 := hg.1.2.2.2.2.2.2.2.1
  obtain ⟨-, ⟨w1, w2⟩, ⟨v1, v2⟩, -⟩ := id hg.1
  refine zin0 rfl rfl rfl (b19_0 ?_)
  show (I 0 7 = 0 → _) ∧ (¬ I 0 7 = 0 → _)
  rw [e7]
  refine pk_eq (g 7) 0 (fun z => ?_) (fun z => ?_) rfl rfl (by omega) (by omega)
  · rw [show sTurns g = 1 by unfold sTurns; rw [if_pos z]] at h
    exact b19_14 (b19_35 h)
  · refine zhp hg (fun c => ?_) (fun c => ?_)
    · refine b19_18 ?_
      show (¬ I 0 1 = I 0 2 → _) ∧ (I 0 1 = I 0 2 → _)
      rw [mG0 hg 1 (by decide), mG0 hg 2 (by decide)]
      refine (fun z : _ ∧ _ => And.intro z.2 z.1) (pk_eq (g 1) (g 2) (fun z2 => ?_) (fun z2 => ?_) rfl rfl (by omega) (by omega))
      · rw [show sTurns g = 8 by unfold sTurns; rw [if_neg z, if_neg (by omega), if_pos z2]] at h
        exact b19_35 h
      · rw [show sTurns g = 4 by unfold sTurns; rw [if_neg z, if_neg (by omega), if_neg z2]] at h
        exact b19_34 (b19_35 h)
    · rw [show sTurns g = 1 by unfold sTurns; rw [if_neg z, if_pos c]] at h
      exact b19_14 (b19_35 h)
theorem zand1 : ∀ t, t < 8 → nI t &&& 1 = nI (t % 2) := by decide +kernel
theorem zand2 : ∀ t, t < 8 → nI t &&& 2 = nI (2 * (t / 2 % 2)) := by decide +kernel
theorem c_turned {k t : Nat} (hg : mG g I) (hk : k < sPl g) (ht : t < 8) (h4 : 4 ≤ t → g 1 = g 2) (h : post (some (.int (nI (sTd g k t)))) I L (zR1 q)) : zC G (n + 1) 20 [.ref 0, .int (nI k), .int (nI t)] I L (zR1 q) post := by
  obtain ⟨-, ⟨w1, w2⟩, ⟨v1, v2⟩, -⟩ := id hg.1
  have e1 : I 0 1 = nI (g 1) := mG0 hg 1 (by decide)
  have e2 : I 0 2 = nI (g 2) := mG0 hg 2 (by decide)
  have hpl := sPl_pos hg.1
  have w0 : ¬ I 0 1 = 0 := by rw [e1]; exact nI_ne0 (by omega) (by omega)
  have a1 : k % g 1 < g 1 := Nat.mod_lt _ w1
  have a2 : k / g 1 < g 2 := Nat.div_lt_of_lt_mul hk
  have ex : nI k - nI k / I 0 1 * I 0 1 = nI (k % g 1) := by rw [e1, pk_rem (by omega) (by omega) (by omega)]
  have ey : nI k / I 0 1 = nI (k / g 1) := by rw [e1, pk_div (by omega) (by omega) (by omega)]
  -- the end
  have fin : ∀ x y : Nat, y = (if t / 2 % 2 = 1 then g 2 - 1 - (if t < 4 then k / g 1 else k % g 1) else (if t < 4 then k / g 1 else k % g 1)) → x = (if t % 2 = 1 then g 1 - 1 - (if t < 4 then k % g 1 else k / g 1) else (if t < 4 then k % g 1 else k / g 1)) → zQ G 20 n post 77 [some (.ref 0), some (.int (nI k)), some (.int (nI t)), none, none, some (.int (nI x)), some (.int (nI y))] [] I L (zR1 q) := by
    intro x y hy hx
    refine b20_77 ?_
    have e : I 0 1 * nI y + nI x = nI (sTd g k t) := by
      rw [e1, pk_mul, nI_add, hy, hx]
      rfl
    rw [← e] at h
    exact h
  have p59 : ∀ x y : Nat, y = (if t < 4 then k / g 1 else k % g 1) → y < g 2 → x = (if t % 2 = 1 then g 1 - 1 - (if t < 4 then k % g 1 else k / g 1) else (if t < 4 then k % g 1 else k / g 1)) → zQ G 20 n post 59 [some (.ref 0), some (.int (nI k)), some (.int (nI t)), none, none, some (.int (nI x)), some (.int (nI y))] [] I L (zR1 q) := by
    intro x y hy hy2 hx
    refine b20_59 ?_
    refine (fun z : _ ∧ _ => And.intro z.2 z.1) (pk_eq (2 * (t / 2 % 2)) 2 (fun z2 => ?_) (fun z2 => ?_) (zand2 t ht) rfl (by omega) (by omega))
    · have e : I 0 2 - 1 - nI y = nI (g 2 - 1 - y) := by
        rw [e2, show nI (g 2) - 1 = nI (g 2 - 1) from pk_sub (b := 1) (by omega), pk_sub (by omega)]
      have qq := fin x (g 2 - 1 - y) (by rw [if_pos (by omega), hy]) hx
      rw [← e] at qq
      exact qq
    · exact fin x y (by rw [if_neg (by omega), hy]) hx
  have p39 : ∀ x y : Nat, y = (if t < 4 then k / g 1 else k % g 1) → y < g 2 → x = (if t < 4 then k % g 1 else k / g 1) → x < g 1 → zQ G 20 n post 39 [some (.ref 0), some (.int (nI k)), some (.int (nI t)), some (.int (nI (k % g 1))), some (.int (nI (k / g 1))), some (.int (nI x)), none] [.int (nI y)] I L (zR1 q) := by
    intro x y hy hy2 hx hx2
    refine b20_39 ?_
    refine (fun z : _ ∧ _ => And.intro z.2 z.1) (pk_eq (t % 2) 1 (fun z2 => ?_) (fun z2 => ?_) (zand1 t ht) rfl (by omega) (by omega))
    · have e : I 0 1 - 1 - nI x = nI (g 1 - 1 - x) := by
        rw [e1, show nI (g 1) - 1 = nI (g 1 - 1) from pk_sub (b := 1) (by omega), pk_sub (by omega)]
      have qq := p59 (g 1 - 1 - x) y hy hy2 (by rw [if_pos z2, hx])
      rw [← e] at qq
      exact zP_lv (by exact ⟨rfl, rfl, rfl, rfl, rfl, trivial⟩) qq
    · exact zP_lv (by exact ⟨rfl, rfl, rfl, rfl, rfl, trivial⟩) (p59 x y hy hy2 (by rw [if_neg z2, hx]))
  refine zin0 rfl rfl rfl (b20_0 (And.intro w0 (And.intro w0 ?_)))
  rw [ex, ey]
  refine pk_lt t 4 (fun z => ?_) (fun z => ?_) rfl rfl (by omega) (by omega)
  · refine b20_25 (b20_26 (pk_lt t 4 (fun _ => b20_37 ?_) (fun z2 => absurd z (by omega)) rfl rfl (by omega) (by omega)))
    exact p39 (k % g 1) (k / g 1) (by rw [if_pos z]) a2 (by rw [if_pos z]) a1
  · have hsq := h4 z
    refine b20_26 (pk_lt t 4 (fun z2 => absurd z (by omega)) (fun _ => ?_) rfl rfl (by omega) (by omega))
    exact p39 (k / g 1) (k % g 1) (by rw [if_neg (by omega)]) (by omega) (by rw [if_neg (by omega)]) (by omega)
end
