-- ===== what holds of every chest; a game played =====
/-- opened boxes are the chest's boxes; beads lie in opened boxes, at moves that have beads -/
def cIn (g : zg) (c : sC) : Prop := cAll c ∧ (∀ b, c.2.1 b = true → sR g b ∧ sBox g b = b ∧ sWork g b = g 8) ∧ ∀ b k, k < 9 → c.1 (9 * b + k) ≠ 0 → c.2.1 b = true ∧ sHas g b k = true
theorem cIn_emp {g : zg} {c : sC} (h : cIn g c) : cEmp c := fun b k hk ho => by
  by_cases z : c.1 (9 * b + k) = 0
  · exact z
  · have := (h.2.2 b k hk z).1
    rw [ho] at this
    cases this
theorem cIn_set {g : zg} {c c' : sC} {b k : Nat} (h : cIn g c) (ha : cAll c') (hop : c'.2.1 = c.2.1) (hk : k < 9) (ho : c.2.1 b = true) (hh : sHas g b k = true) (hj : ∀ j, j ≠ 9 * b + k → c'.1 j = c.1 j) : cIn g c' := by
  refine ⟨ha, fun b' hb' => h.2.1 b' (by rw [← hop]; exact hb'), fun b' k' hk' hne => ?_⟩
  rw [hop]
  by_cases z : 9 * b' + k' = 9 * b + k
  · have e1 : b' = b := by omega
    have e2 : k' = k := by omega
    subst e1 e2
    exact ⟨ho, hh⟩
  · rw [hj _ z] at hne
    exact h.2.2 b' k' hk' hne
theorem cIn_lt {g : zg} {c : sC} (hg : gOk g) (h : cIn g c) {b : Nat} (ho : c.2.1 b = true) : b < 19683 := sR_lt hg (h.2.1 b ho).1
theorem cIn_give {g : zg} {c : sC} (hg : gOk g) {b k : Nat} (x : Nat) (h : cIn g c) (hk : k < 9) (ho : c.2.1 b = true) (hh : sHas g b k = true) : cIn g (cGive c (9 * b + k) x) := cIn_set h (cAll_give h.1 (by have := cIn_lt hg h ho; omega)) rfl hk ho hh fun j hj => fup_n hj
theorem cPay_op (c : sC) (k : Nat) (x : Int) : (cPay c k x).2.1 = c.2.1 := by
  unfold cPay
  split <;> rfl
theorem cIn_pay {g : zg} {c : sC} (hg : gOk g) {b k : Nat} (x : Int) (h : cIn g c) (hk : k < 9) (ho : c.2.1 b = true) (hh : sHas g b k = true) : cIn g (cPay c (9 * b + k) x) := by
  refine cIn_set h (cAll_pay h.1 (by have := cIn_lt hg h ho; omega) x) (cPay_op c _ x) hk ho hh fun j hj => ?_
  unfold cPay
  split
  · exact fup_n hj
  · exact fup_n hj
theorem cFill_op (g : zg) (b x : Nat) (c : sC) : ∀ m, (cFill g b x c m).1.2.1 = c.2.1
  | 0 => rfl
  | m + 1 => by
    rw [cFill]
    split
    · exact cFill_op g b x c m
    · exact cFill_op g b x c m
theorem cFill_R (g : zg) (b x : Nat) (c : sC) : ∀ m, (cFill g b x c m).1.2.2.2 = c.2.2.2
  | 0 => rfl
  | m + 1 => by
    rw [cFill]
    split
    · exact cFill_R g b x c m
    · exact cFill_R g b x c m
theorem sHas_lt {g : zg} {b m : Nat} (hg : gOk g) (h : sHas g b m = true) : m < 9 ∧ sCan g b m = true := by
  have q := (Bool.and_eq_true_iff.mp h).1
  have := sCan_lt q
  have := sMM_pos hg
  exact ⟨by omega, q⟩
theorem cIn_fill {g : zg} {c : sC} (hg : gOk g) {b x : Nat} (h : cIn g c) (ho : c.2.1 b = true) : ∀ m, cIn g (cFill g b x c m).1
  | 0 => h
  | m + 1 => by
    have q := cIn_fill (x := x) hg h ho m
    rw [cFill]
    split
    · next c2 => exact cIn_give hg x q (sHas_lt hg c2).1 (by rw [cFill_op]; exact ho) c2
    · exact q
theorem cIn_opn {g : zg} {c : sC} {b : Nat} (h : cIn g c) (hr : sR g b) (hb : sBox g b = b) (hw : sWork g b = g 8) : cIn g (cSetOp c b true) := by
  refine ⟨h.1, fun b' hb' => ?_, fun b' k hk hne => ⟨?_, (h.2.2 b' k hk hne).2⟩⟩
  · by_cases z : b' = b
    · subst z; exact ⟨hr, hb, hw⟩
    · exact h.2.1 b' (by rw [← fup_n (f := c.2.1) (v := true) z]; exact hb')
  · show fup c.2.1 b true b' = true
    by_cases z : b' = b
    · rw [z, fup_s]
    · rw [fup_n z]; exact (h.2.2 b' k hk hne).1
theorem cRefill_op (g : zg) (b x : Nat) (c : sC) : (cRefill g b x c).2.1 = c.2.1 := by
  unfold cRefill
  split
  · exact cFill_op g b x c _
  · rfl
theorem cIn_refill {g : zg} {c : sC} (hg : gOk g) {b x : Nat} (h : cIn g c) (ho : c.2.1 b = true) : cIn g (cRefill g b x c) := by
  unfold cRefill
  split
  · exact cIn_fill hg h ho _
  · exact h
theorem sPays_in {g : zg} (hg : gOk g) {rl : zrl} {r e : Nat} : ∀ (ds : List (Nat × Nat)) (i : Nat) (c : sC), cIn g c → (∀ d, d ∈ ds → c.2.1 d.1 = true ∧ sHas g d.1 d.2 = true) → cIn g (sPays rl r e ds i c) ∧ (sPays rl r e ds i c).2.1 = c.2.1 := by
  intro ds
  induction ds with
  | nil =>
    intro i c h _
    rw [sPays]
    exact ⟨h, rfl⟩
  | cons d ds ih =>
    intro i c h hd
    rw [sPays]
    have q := hd d List.mem_cons_self
    have a := ih (i + 1) _ (cIn_pay hg (sAmt rl r e i) h (sHas_lt hg q.2).1 q.1 q.2) (fun x hx => by rw [cPay_op]; exact hd x (List.mem_cons_of_mem _ hx))
    rw [cPay_op] at a
    exact a
theorem sRefs_in {g : zg} (hg : gOk g) {x : Nat} : ∀ (ds : List (Nat × Nat)) (c : sC), cIn g c → (∀ d, d ∈ ds → c.2.1 d.1 = true) → cIn g (sRefs g x ds c) ∧ (sRefs g x ds c).2.1 = c.2.1 := by
  intro ds
  induction ds with
  | nil =>
    intro c h _
    rw [sRefs]
    exact ⟨h, rfl⟩
  | cons d ds ih =>
    intro c h hd
    rw [sRefs]
    have a := ih _ (cIn_refill (x := x) hg h (hd d List.mem_cons_self)) (fun y hy => by rw [cRefill_op]; exact hd y (List.mem_cons_of_mem _ hy))
    rw [cRefill_op] at a
    exact a
theorem sPayAll_in {g : zg} (hg : gOk g) {rl : zrl} {ru : Option Nat} {e : Nat} {ds : List (Nat × Nat)} {em : Option Nat} {c : sC} (h : cIn g c) (hd : ∀ d, d ∈ ds → c.2.1 d.1 = true ∧ sHas g d.1 d.2 = true) (hem : ∀ b, em = some b → c.2.1 b = true) : cIn g (sPayAll g rl ru e ds em c) ∧ (sPayAll g rl ru e ds em c).2.1 = c.2.1 := by
  unfold sPayAll
  cases ru with
  | none => exact ⟨h, rfl⟩
  | some r =>
    have a1 := sPays_in hg (rl := rl) (r := r) (e := e) ds 0 c h hd
    have a2 := sRefs_in hg (x := rl.2.2 r) ds _ a1.1 (fun d hx => by rw [a1.2]; exact (hd d hx).1)
    rw [a1.2] at a2
    dsimp only
    split
    · exact a1
    · cases em with
      | none => exact a2
      | some b =>
        have a3 := cIn_refill (x := rl.2.2 r) hg a2.1 (by rw [a2.2]; exact hem b rfl)
        refine ⟨a3, ?_⟩
        show (cRefill _ _ _ _).2.1 = _
        rw [cRefill_op, a2.2]
-- ===== the game =====
def sOpn (g : zg) (fr : Nat → Nat) (c : sC) (b : Nat) : sC := if c.2.1 b = true then c else (cFill g b (fr (min 20 (sStn g b))) (cSetOp c b true) (sMM g)).1
def cSetR (c : sC) (r : Int32) : sC := (c.1, c.2.1, c.2.2.1, c.2.2.2.1, r)
/-- the move of the box that is drawn -/
def sBm (c1 : sC) (b : Nat) : Nat := sPick (fun k => c1.1 (9 * b + k)) 9 0 (sDr c1.2.2.2.2 (sInB c1 b))
abbrev zps : Type := Nat × sC × List (Nat × Nat) × List Nat × Option Nat
def sPlay (g : zg) (fr : Nat → Nat) (F : zfo) : Nat → Nat → sC → List (Nat × Nat) → List Nat → zps
  | 0, p, c, ds, ts => (p, c, ds, ts, none)
  | n + 1, p, c, ds, ts => if sWork g p < 2 then (if sWork g p = g 8 then
      (if sInB (sOpn g fr c (sBox g p)) (sBox g p) = 0 then (p, sOpn g fr c (sBox g p), ds, ts, some (sBox g p))
      else sPlay g fr F n (sBeh g p (sMv g p (sBm (sOpn g fr c (sBox g p)) (sBox g p)))) (cSetR (sOpn g fr c (sBox g p)) (sRnd (sOpn g fr c (sBox g p)).2.2.2.2)) (ds ++ [(sBox g p, sBm (sOpn g fr c (sBox g p)) (sBox g p))]) (ts ++ [sMv g p (sBm (sOpn g fr c (sBox g p)) (sBox g p))]))
    else sPlay g fr F n (sBeh g p (sDF g F p c.2.2.2.2).1) (cSetR c (sDF g F p c.2.2.2.2).2) ds (ts ++ [(sDF g F p c.2.2.2.2).1])) else (p, c, ds, ts, none)
/-- how a played game ended, to the chest -/
def sHow (g : zg) (s : zps) : Nat := match s.2.2.2.2 with
  | some _ => 0
  | none => sEnd g s.1
/-- a game played: 2 won, 1 drawn, 0 lost, 3 resigned; the chest behind it; the moves -/
def sGm (g : zg) (fr : Nat → Nat) (rl : zrl) (ru : Option Nat) (F : zfo) (c : sC) : Nat × sC × List Nat :=
  ((match (sPlay g fr F 21 (sFirst g) c [] []).2.2.2.2 with
    | some _ => 3
    | none => sHow g (sPlay g fr F 21 (sFirst g) c [] [])), sPayAll g rl ru (sHow g (sPlay g fr F 21 (sFirst g) c [] [])) (sPlay g fr F 21 (sFirst g) c [] []).2.2.1 (sPlay g fr F 21 (sFirst g) c [] []).2.2.2.2 (sPlay g fr F 21 (sFirst g) c [] []).2.1, (sPlay g fr F 21 (sFirst g) c [] []).2.2.2.1)
theorem sOpn_in {g : zg} (hg : gOk g) {fr : Nat → Nat} {c : sC} {p : Nat} (h : cIn g c) (hr : sR g p) (hw : sWork g p = g 8) : cIn g (sOpn g fr c (sBox g p)) ∧ (sOpn g fr c (sBox g p)).2.1 (sBox g p) = true ∧ ∀ b, c.2.1 b = true → (sOpn g fr c (sBox g p)).2.1 b = true := by
  obtain ⟨b1, b2, b3, b4⟩ := gR_box hg hr
  unfold sOpn
  split
  · next c2 => exact ⟨h, c2, fun _ z => z⟩
  · have q := cIn_opn h b1 (sBox_box hg hr) (by rw [b2]; exact hw)
    have ho : (cSetOp c (sBox g p) true).2.1 (sBox g p) = true := fup_s
    refine ⟨cIn_fill hg q ho _, ?_, fun b hb => ?_⟩
    · rw [cFill_op]; exact ho
    · rw [cFill_op]
      show fup c.2.1 (sBox g p) true b = true
      by_cases z : b = sBox g p
      · rw [z, fup_s]
      · rw [fup_n z]; exact hb
theorem cIn_R {g : zg} {c : sC} (h : cIn g c) (r : Int32) : cIn g (cSetR c r) := h
/-- what is drawn is a move that has beads -/
theorem sBm_ok {g : zg} {c : sC} {b : Nat} (h : cIn g c) (hn : sInB c b ≠ 0) : sBm c b < 9 ∧ sHas g b (sBm c b) = true ∧ sDr c.2.2.2.2 (sInB c b) < sS (fun k => c.1 (9 * b + k)) 9 0 := by
  have hd : sDr c.2.2.2.2 (sInB c b) < sS (fun k => c.1 (9 * b + k)) 9 0 := by rw [sS_0]; exact sDr_lt (Nat.pos_of_ne_zero hn)
  have q := sPick_in _ _ _ _ hd
  have h9 : sBm c b < 9 := by
    have := q.2.1
    show sPick _ _ _ _ < 9
    omega
  exact ⟨h9, (h.2.2 b _ h9 (Nat.pos_iff_ne_zero.mp q.2.2)).2, hd⟩
/-- what holds while a game is played -/
def pInv (g : zg) (p : Nat) (c : sC) (ds : List (Nat × Nat)) (ts : List Nat) : Prop := sR g p ∧ cIn g c ∧ (∀ d, d ∈ ds → c.2.1 d.1 = true ∧ sHas g d.1 d.2 = true) ∧ ds.length ≤ ts.length ∧ ts.length + sDep g p ≤ 20
theorem pInv_own {g : zg} (hg : gOk g) {fr : Nat → Nat} {p : Nat} {c : sC} {ds : List (Nat × Nat)} {ts : List Nat} (h : pInv g p c ds ts) (hw : sWork g p = g 8) (hw2 : sWork g p < 2) (hn : sInB (sOpn g fr c (sBox g p)) (sBox g p) ≠ 0) (r : Int32) : sCan g p (sMv g p (sBm (sOpn g fr c (sBox g p)) (sBox g p))) = true ∧ pInv g (sBeh g p (sMv g p (sBm (sOpn g fr c (sBox g p)) (sBox g p)))) (cSetR (sOpn g fr c (sBox g p)) r) (ds ++ [(sBox g p, sBm (sOpn g fr c (sBox g p)) (sBox g p))]) (ts ++ [sMv g p (sBm (sOpn g fr c (sBox g p)) (sBox g p))]) := by
  obtain ⟨hr, hc, hd, hl, hlen⟩ := h
  obtain ⟨o1, o2, o3⟩ := sOpn_in hg (fr := fr) hc hr hw
  obtain ⟨m1, m2, -⟩ := sBm_ok o1 hn
  have hcan := sMv_can hg (sHas_lt hg m2).2
  have hdep := sDep_lt hg hcan
  refine ⟨hcan, sR_step hr hw2 hcan, cIn_R o1 r, fun d hx => ?_, ?_, ?_⟩
  · rcases List.mem_append.mp hx with z | z
    · exact ⟨o3 _ (hd d z).1, (hd d z).2⟩
    · rw [List.mem_singleton.mp z]
      exact ⟨o2, m2⟩
  · rw [List.length_append, List.length_append]
    have e1 : [(sBox g p, sBm (sOpn g fr c (sBox g p)) (sBox g p))].length = 1 := rfl
    have e2 : [sMv g p (sBm (sOpn g fr c (sBox g p)) (sBox g p))].length = 1 := rfl
    omega
  · rw [List.length_append]
    have e2 : [sMv g p (sBm (sOpn g fr c (sBox g p)) (sBox g p))].length = 1 := rfl
    omega
theorem pInv_foe {g : zg} (hg : gOk g) {p m : Nat} {c : sC} {ds : List (Nat × Nat)} {ts : List Nat} (h : pInv g p c ds ts) (hw2 : sWork g p < 2) (hcan : sCan g p m = true) (r : Int32) : pInv g (sBeh g p m) (cSetR c r) ds (ts ++ [m]) := by
  obtain ⟨hr, hc, hd, hl, hlen⟩ := h
  have hdep := sDep_lt hg hcan
  refine ⟨sR_step hr hw2 hcan, cIn_R hc r, hd, ?_, ?_⟩
  · rw [List.length_append]; omega
  · rw [List.length_append]
    have e2 : [m].length = 1 := rfl
    omega
theorem pInv_0 {g : zg} (hg : gOk g) {c : sC} (hc : cIn g c) : pInv g (sFirst g) c [] [] := ⟨sR_first g, hc, (fun _ hx => by cases hx), Nat.le_refl _, by have := sDep_first g hg; show 0 + sDep g (sFirst g) ≤ 20; omega⟩
theorem pInv_pok {g : zg} (hg : gOk g) {c : sC} (hc : cIn g c) {ds : List (Nat × Nat)} (hd : ∀ d, d ∈ ds → c.2.1 d.1 = true ∧ sHas g d.1 d.2 = true) : ∀ d, d ∈ ds → pOk g d.1 ∧ d.2 < 9 := fun d hx => ⟨sR_ok hg (hc.2.1 d.1 (hd d hx).1).1, (sHas_lt hg (hd d hx).2).1⟩
/-- the end of a played game -/
theorem sPlay_end {g : zg} (hg : gOk g) {fr : Nat → Nat} {F : zfo} : ∀ (n p : Nat) (c : sC) (ds : List (Nat × Nat)) (ts : List Nat), sDep g p < n → pInv g p c ds ts → pInv g (sPlay g fr F n p c ds ts).1 (sPlay g fr F n p c ds ts).2.1 (sPlay g fr F n p c ds ts).2.2.1 (sPlay g fr F n p c ds ts).2.2.2.1 ∧ ((sPlay g fr F n p c ds ts).2.2.2.2 = none → 2 ≤ sWork g (sPlay g fr F n p c ds ts).1) ∧ ∀ b, (sPlay g fr F n p c ds ts).2.2.2.2 = some b → (sPlay g fr F n p c ds ts).2.1.2.1 b = true := by
  intro n
  induction n with
  | zero => intro p c ds ts h _; exact absurd h (Nat.not_lt_zero _)
  | succ n ih =>
    intro p c ds ts hd h
    rw [sPlay]
    by_cases z : sWork g p < 2
    · rw [if_pos z]
      by_cases z2 : sWork g p = g 8
      · rw [if_pos z2]
        obtain ⟨o1, o2, o3⟩ := sOpn_in hg (fr := fr) h.2.1 h.1 z2
        by_cases z3 : sInB (sOpn g fr c (sBox g p)) (sBox g p) = 0
        · rw [if_pos z3]
          refine ⟨⟨h.1, o1, fun d hx => ⟨o3 _ (h.2.2.1 d hx).1, (h.2.2.1 d hx).2⟩, h.2.2.2⟩, (fun z4 => by cases z4), fun b hb => ?_⟩
          have hb : some (sBox g p) = some b := hb
          injection hb with hb
          subst hb
          exact o2
        · rw [if_neg z3]
          obtain ⟨q1, q2⟩ := pInv_own hg h z2 z z3 (sRnd (sOpn g fr c (sBox g p)).2.2.2.2)
          exact ih _ _ _ _ (by have := sDep_lt hg q1; omega) q2
      · rw [if_neg z2]
        have hcan := sDF_can hg (F := F) c.2.2.2.2 z
        exact ih _ _ _ _ (by have := sDep_lt hg hcan; omega) (pInv_foe hg h z hcan _)
    · rw [if_neg z]
      exact ⟨h, (fun _ => by show 2 ≤ sWork g p; omega), fun b hb => by cases hb⟩
theorem sGm_in {g : zg} (hg : gOk g) {fr : Nat → Nat} {rl : zrl} {ru : Option Nat} {F : zfo} {c : sC} (hc : cIn g c) : cIn g (sGm g fr rl ru F c).2.1 := by
  have hd := sDep_first g hg
  obtain ⟨a, -, b⟩ := sPlay_end hg (fr := fr) (F := F) 21 (sFirst g) c [] [] (by omega) (pInv_0 hg hc)
  exact (sPayAll_in hg a.2.1 a.2.2.1 b).1
section
variable {G : zG} {n : Nat} {I : zI} {L : zL} {q : zq} {post : zPo} {g : zg} {c : sC} {w : uW}
def tP (o k : Nat) : Bool := tC o k || Nat.beq o 21 || Nat.beq o 22 || Nat.beq o 23 || (Nat.beq o 0 && Nat.beq k 46)
theorem tC_tP {I' : zI} (h : zFr tC I I') : zFr tP I I' := fun o k z => h o k (by
  unfold tP at z
  simp only [Bool.or_eq_false_iff] at z
  exact z.1.1.1.1)
theorem mG_tP {I' : zI} (hg : mG g I) (hf : zFr tP I I') : mG g I' := ⟨hg.1, fun k hk => (hf 0 k ((by decide : ∀ k, k < 9 → tP 0 k = false) k hk)).trans (hg.2 k hk)⟩
theorem mPos_tP {I' : zI} (h : mPos g I) (hf : zFr tP I I') : mPos g I' := mPos_of h (zFr_row hf fun _ => rfl) (zFr_row hf fun _ => rfl) (zFr_row hf fun _ => rfl)
theorem mF_tP {f : Nat → Nat} {I' : zI} (h : mF f I) (hf : zFr tP I I') : mF f I' := fun s hs => ⟨(hf 6 s rfl).trans (h s hs).1, (h s hs).2⟩
theorem mRl_tP {nr : Nat} {rl : zrl} {ru : Option Nat} {I' : zI} (h : mRl nr rl ru I) (hf : zFr tP I I') : mRl nr rl ru I' := mRl_of h (hf 0 18 rfl) (hf 0 22 rfl) (zFr_row hf fun _ => rfl) (zFr_row hf fun _ => rfl) (zFr_row hf fun _ => rfl)
theorem mFo1_tP {f : Nat} {F : zfo} {I' : zI} (h : mFo1 f F I L) (hf : zFr tP I I') : mFo1 f F I' L := ⟨(hf 10 f rfl).trans h.1, fun k hk => ⟨(hf 11 _ rfl).trans (h.2 k hk).1, (hf 12 _ rfl).trans (h.2 k hk).2.1, (hf 14 _ rfl).trans (h.2 k hk).2.2.1, (h.2 k hk).2.2.2⟩⟩
/-- the moves told -/
def mT (ts : List Nat) (I : zI) : Prop := I 0 46 = nI ts.length ∧ ∀ j x, ts[j]? = some x → I 23 j = nI x
theorem mT_tC {ts : List Nat} {I' : zI} (h : mT ts I) (hf : zFr tC I I') : mT ts I' := ⟨(hf 0 46 rfl).trans h.1, fun j x hx => (hf 23 j rfl).trans (h.2 j x hx)⟩
theorem snoc_get {α : Type} {l : List α} {a x : α} {j : Nat} (h : (l ++ [a])[j]? = some x) : (j = l.length ∧ x = a) ∨ (j < l.length ∧ l[j]? = some x) := by
  by_cases d : j = l.length
  · subst d
    rw [List.getElem?_append_right (Nat.le_refl _), Nat.sub_self] at h
    cases h
    exact Or.inl ⟨rfl, rfl⟩
  · have hl : j < l.length := by
      have := (List.getElem?_eq_some_iff.mp h).1
      rw [List.length_append] at this
      have e1 : [a].length = 1 := rfl
      omega
    rw [List.getElem?_append_left hl] at h
    exact Or.inr ⟨hl, h⟩
theorem snoc_len {α : Type} {l : List α} {a : α} : (l ++ [a]).length = l.length + 1 := List.length_append
theorem mC_R {r : Int32} (h : mC c I) : mC (cSetR c r) (zup I 0 16 r) := ⟨by rw [zup_ne (by decide)]; exact h.1, by rw [zup_ne (by decide)]; exact h.2.1, h.2.2.1, h.2.2.2.1, zup_self⟩
theorem sEnd_le (g : zg) (p : Nat) : sEnd g p ≤ 2 := by
  unfold sEnd
  repeat' split
  all_goals omega
theorem c_playGame {f nr : Nat} {F : zfo} {fr : Nat → Nat} {rl : zrl} {ru : Option Nat} (hg : mG g I) (hm : mPos g I) (hfr : mF fr I) (hf : f < 8) (hok : foOk F) (hF : mFo1 f F I L) (hrl : mRl nr rl ru I) (hin : cIn g c) (hc : mC c I) (hu : I 0 35 = 0) (h : ∀ I' : zI, mC (sGm g fr rl ru F c).2.1 I' → mT (sGm g fr rl ru F c).2.2 I' → zFr tP I I' → post (some (.int (nI (sGm g fr rl ru F c).1))) I' L (zR1 q)) : zC G (n + 8) 86 [.ref 0, .int (nI f)] I L (zR1 q) post := by
  have h8 := hg.1.2.2.2.2.2.2.2.2
  have hdf := sDep_first g hg.1
  obtain ⟨e1, e2, e3⟩ := sPlay_end hg.1 (fr := fr) (F := F) 21 (sFirst g) c [] [] (by omega) (pInv_0 hg.1 hin)
  -- the end
  have fin : ∀ I' : zI, mC (sPlay g fr F 21 (sFirst g) c [] []).2.1 I' → mDr 0 (sPlay g fr F 21 (sFirst g) c [] []).2.2.1 I' → mT (sPlay g fr F 21 (sFirst g) c [] []).2.2.2.1 I' → zFr tP I I' → zQ G 86 (n + 7) post 212 [some (.ref 0), some (.int (nI f)), some (.int (nI (sPlay g fr F 21 (sFirst g) c [] []).1)), some (.int (nI (sPlay g fr F 21 (sFirst g) c [] []).2.2.1.length)), some (.int (zon (sPlay g fr F 21 (sFirst g) c [] []).2.2.2.2)), none, none, none, none, none] [] I' L (zR1 q) := by
    unfold sGm sHow at h
    dsimp only at h
    generalize sPlay g fr F 21 (sFirst g) c [] [] = S at *
    obtain ⟨p', c', ds, ts, em⟩ := S
    dsimp only at h e1 e2 e3 ⊢
    intro I' hc' hdr hts hfI
    obtain ⟨i1, i2, i3, i4, i5⟩ := e1
    have hg' := mG_tP hg hfI
    have hm' := mPos_tP hm hfI
    have hu' : mU none I' := (hfI 0 35 rfl).trans hu
    have hd9 := pInv_pok hg.1 i2 i3
    have hem : ∀ b, em = some b → pOk g b := fun b hb => sR_ok hg.1 (i2.2.1 b (e3 b hb)).1
    cases em with
    | some b =>
      have hpb := hem b rfl
      refine b86_212 (c_endOf_stuck (by have := hpb.1; omega) ?_)
      show zC G (n + 7) 88 [.ref 0, .int (nI 0), .int (nI ds.length), .int (zon (some b)), .int (nI 0)] I' L (zR1 q) _
      refine c_payAll hg' (mRl_tP hrl hfI) (by omega) (by omega) (by omega) hdr hd9 hem i2.1 hc' hu' trivial fun I2 w2 hc2 _ _ hf2 => ?_
      refine And.intro (fun z => absurd z (zon_ne (by have := hpb.1; omega))) (fun _ => b86_243 ?_)
      exact h I2 hc2 (mT_tC hts hf2) (zFr_tr hfI (tC_tP hf2))
    | none =>
      have hw2 := e2 rfl
      have hel := sEnd_le g p'
      refine b86_212 (c_endOf hg' hm' i1 hw2 ?_)
      show zC G (n + 7) 88 [.ref 0, .int (nI 0), .int (nI ds.length), .int (zon none), .int (nI (sEnd g p'))] I' L (zR1 q) _
      refine c_payAll hg' (mRl_tP hrl hfI) (by omega) (by omega) (by omega) hdr hd9 hem i2.1 hc' hu' trivial fun I2 w2 hc2 _ _ hf2 => ?_
      refine And.intro (fun z => b86_241 (b86_243 ?_)) (fun z => absurd rfl z)
      exact h I2 hc2 (mT_tC hts hf2) (zFr_tr hfI (tC_tP hf2))
  generalize hS0 : sPlay g fr F 21 (sFirst g) c [] [] = S at fin
  have key : ∀ (n' p : Nat) (c' : sC) (ds : List (Nat × Nat)) (ts : List Nat) (I' : zI), sDep g p < n' → pInv g p c' ds ts → sPlay g fr F n' p c' ds ts = S → mC c' I' → mDr 0 ds I' → mT ts I' → zFr tP I I' → zQ G 86 (n + 7) post 15 [some (.ref 0), some (.int (nI f)), some (.int (nI p)), some (.int (nI ds.length)), some (.int (-1)), none, none, none, none, none] [] I' L (zR1 q) := by
    intro n'
    induction n' with
    | zero => intro p c' ds ts I' hd; exact absurd hd (Nat.not_lt_zero _)
    | succ n' ih =>
      intro p c' ds ts I' hd hpi hS hc' hdr hts hfI
      have hg' := mG_tP hg hfI
      have hm' := mPos_tP hm hfI
      have hu' : mU none I' := (hfI 0 35 rfl).trans hu
      obtain ⟨hr, hci, hdo, hlen, hl20⟩ := id hpi
      have hp := sR_ok hg.1 hr
      have hw4 := sWork_le g p
      have hp1 := hp.1
      have inp : vp_in (nI p) 19683 := vp_in_nI hp1 (by decide)
      have es : I' 2 (nI p).toNatClampNeg = nI (sWork g p) := by rw [nI_clamp (by omega)]; exact (mPos_R hg.1 hm' hr).2.1
      rw [sPlay] at hS
      refine b86_15 (And.intro inp (pk_le 2 (sWork g p) (fun z => ?_) (fun z => And.intro (fun z2 => absurd rfl z2) (fun _ => And.intro inp ?_)) rfl es (by omega) (by omega)))
      · rw [if_neg (by omega)] at hS
        subst hS
        exact fin I' hc' hdr hts hfI
      · rw [if_pos z] at hS
        -- behind a move
        have p180 : ∀ (mv : Nat) (c2 : sC) (ds2 : List (Nat × Nat)) (I4 : zI), sCan g p mv = true → pInv g (sBeh g p mv) c2 ds2 (ts ++ [mv]) → sPlay g fr F n' (sBeh g p mv) c2 ds2 (ts ++ [mv]) = S → mC c2 I4 → mDr 0 ds2 I4 → mT ts I4 → zFr tP I I4 → zQ G 86 (n + 7) post 180 [some (.ref 0), some (.int (nI f)), some (.int (nI p)), some (.int (nI ds2.length)), some (.int (-1)), some (.int (nI mv)), none, none, none, none] [] I4 L (zR1 q) := by
          intro mv c2 ds2 I4 hcan hpi2 hS2 hc2 hdr2 hts2 hf4
          have hlt := hpi2.2.2.2.2
          rw [snoc_len] at hlt
          have e46 : I4 0 46 = nI ts.length := hts2.1
          have c46 : (I4 0 46).toNatClampNeg = ts.length := by rw [e46, nI_clamp (by omega)]
          refine b86_180 (And.intro (by show vp_in (I4 0 46) 24; rw [e46]; exact vp_in_nI (by omega) (by decide)) (And.intro rfl ?_))
          obtain ⟨I5, hI5⟩ : ∃ I5 : zI, I5 = zup (zup I4 23 (I4 0 46).toNatClampNeg (nI mv)) 0 46 (I4 0 46 + 1) := ⟨_, rfl⟩
          have hf5 : zFr tP I I5 := by rw [hI5]; exact zFr_up (zFr_up hf4 rfl) rfl
          have hg5 := mG_tP hg hf5
          show zC G (n + 7) 12 [.ref 0, .int (nI p), .int (nI mv)] (zup (zup I4 23 (I4 0 46).toNatClampNeg (nI mv)) 0 46 (I4 0 46 + 1)) L (zR1 q) _
          rw [← hI5]
          refine c_behind hg5 hp hcan ?_
          refine zP_lv ?_ (ih (sBeh g p mv) c2 ds2 (ts ++ [mv]) I5 (by have := sDep_lt hg.1 hcan; omega) hpi2 hS2 ?_ ?_ ?_ hf5)
          · exact ⟨rfl, rfl, rfl, rfl, rfl, trivial⟩
          · rw [hI5]
            exact mC_of hc2 (by rw [zup_ne (by decide), zup_ne (by decide)]) (by rw [zup_ne (by decide), zup_ne (by decide)]) rfl rfl rfl
          · rw [hI5]
            intro j d hj
            rw [zup_ne (by decide), zup_ne (by decide), zup_ne (by decide), zup_ne (by decide)]
            exact hdr2 j d hj
          · rw [hI5]
            refine ⟨by rw [zup_self, e46, nI_1, snoc_len], fun j x hx => ?_⟩
            rw [zup_ne (by decide), zup_eq, c46]
            rcases snoc_get hx with ⟨a1, a2⟩ | ⟨a1, a2⟩
            · rw [if_pos a1, a2]
            · rw [if_neg (by omega)]
              exact hts2.2 j x a2
        refine pk_ne (sWork g p) (g 8) (fun z2 => b86_172 ?_) (fun z2 => ?_) es (mG0 hg' 8 (by decide)) (by omega) (by omega)
        · rw [if_neg z2] at hS
          have hcan := sDF_can hg.1 (F := F) c'.2.2.2.2 z
          have e16 : I' 0 16 = c'.2.2.2.2 := hc'.2.2.2.2
          refine c_drawFoe hg' hm' hr z hf hok (mFo1_tP hF hfI) ?_
          rw [e16]
          have hfr := zFr_R I' (sDF g F p c'.2.2.2.2).2
          exact p180 _ (cSetR c' (sDF g F p c'.2.2.2.2).2) ds _ hcan (pInv_foe hg.1 hpi z hcan _) hS (mC_R hc') (mDr_tC hdr hfr) (mT_tC hts hfr) (zFr_tr hfI (tC_tP hfr))
        · rw [if_pos z2] at hS
          obtain ⟨b1, b2, b3, b4⟩ := gR_box hg.1 hr
          obtain ⟨o1, o2, o3⟩ := sOpn_in hg.1 (fr := fr) hci hr z2
          have hbp := sR_ok hg.1 b1
          have hb1 := hbp.1
          have inbx : vp_in (nI (sBox g p)) 19683 := vp_in_nI hb1 (by decide)
          have ecb : (nI (sBox g p)).toNatClampNeg = sBox g p := nI_clamp (by omega)
          -- the box is open
          have p68 : ∀ I2 : zI, mC (sOpn g fr c' (sBox g p)) I2 → zFr tC I' I2 → zQ G 86 (n + 7) post 68 [some (.ref 0), some (.int (nI f)), some (.int (nI p)), some (.int (nI ds.length)), some (.int (-1)), none, some (.int (nI (sBox g p))), none, none, none] [] I2 L (zR1 q) := by
            intro I2 hc2 hf2
            have hfI2 := zFr_tr hfI (tC_tP hf2)
            have hg2 := mG_tP hg hfI2
            have hm2 := mPos_tP hm hfI2
            have hdr2 := mDr_tC hdr hf2
            have hts2 := mT_tC hts hf2
            have hib := sInB_le o1.1 hb1
            refine b86_68 (c_inBox hb1 hc2 ?_)
            refine pk_ne (sInB (sOpn g fr c' (sBox g p)) (sBox g p)) 0 (fun z3 => b86_88 ?_) (fun z3 => ?_) rfl rfl (by omega) (by omega)
            · rw [if_neg z3] at hS
              obtain ⟨q1, q2⟩ := pInv_own hg.1 hpi z2 z z3 (sRnd (sOpn g fr c' (sBox g p)).2.2.2.2)
              obtain ⟨m1, m2, m3⟩ := sBm_ok o1 z3
              have e16 : I2 0 16 = (sOpn g fr c' (sBox g p)).2.2.2.2 := hc2.2.2.2.2
              have hdl := sDr_lt (r := (sOpn g fr c' (sBox g p)).2.2.2.2) (Nat.pos_of_ne_zero z3)
              refine c_draw (Nat.pos_of_ne_zero z3) (by omega) ?_
              rw [e16]
              obtain ⟨I3, hI3⟩ : ∃ I3 : zI, I3 = zup I2 0 16 (sRnd (sOpn g fr c' (sBox g p)).2.2.2.2) := ⟨_, rfl⟩
              have hc3 : mC (cSetR (sOpn g fr c' (sBox g p)) (sRnd (sOpn g fr c' (sBox g p)).2.2.2.2)) I3 := by rw [hI3]; exact mC_R hc2
              have hf3 : zFr tC I2 I3 := by rw [hI3]; exact zFr_R _ _
              have hfI3 := zFr_tr hfI2 (tC_tP hf3)
              rw [← hI3]
              have loop : ∀ fl k l, k + fl = 9 → l < sS (fun k => (sOpn g fr c' (sBox g p)).1 (9 * sBox g p + k)) fl k → l < 2 ^ 20 → sPick (fun k => (sOpn g fr c' (sBox g p)).1 (9 * sBox g p + k)) fl k l = sBm (sOpn g fr c' (sBox g p)) (sBox g p) → zQ G 86 (n + 7) post 99 [some (.ref 0), some (.int (nI f)), some (.int (nI p)), some (.int (nI ds.length)), some (.int (-1)), none, some (.int (nI (sBox g p))), none, some (.int (nI l)), some (.int (nI k))] [] I3 L (zR1 q) := by
                intro fl
                induction fl with
                | zero => intro k l _ hl; exact absurd hl (Nat.not_lt_zero _)
                | succ fl ihl =>
                  intro k l hk hl hl2 hp2
                  rw [sPick] at hp2
                  have hl : l < (sOpn g fr c' (sBox g p)).1 (9 * sBox g p + k) + sS (fun k => (sOpn g fr c' (sBox g p)).1 (9 * sBox g p + k)) fl (k + 1) := hl
                  have hk0 : 9 * sBox g p + k < 177147 := by omega
                  have hbd := cAll_bd o1.1 hk0
                  have e9 : (9 : Int32) * nI (sBox g p) + nI k = nI (9 * sBox g p + k) := by rw [show (9 : Int32) = nI 9 from rfl, pk_mul, nI_add]
                  have in9 : vp_in ((9 : Int32) * nI (sBox g p) + nI k) 177147 := by rw [e9]; exact vp_in_nI hk0 (by decide)
                  have eb : I3 5 ((9 : Int32) * nI (sBox g p) + nI k).toNatClampNeg = nI ((sOpn g fr c' (sBox g p)).1 (9 * sBox g p + k)) := by rw [e9, nI_clamp (by omega)]; exact hc3.1 _ hk0
                  refine b86_99 (And.intro in9 (pk_lt l ((sOpn g fr c' (sBox g p)).1 (9 * sBox g p + k)) (fun z4 => b86_141 ?_) (fun z4 => And.intro in9 ?_) rfl eb (by omega) (by omega)))
                  · rw [if_pos z4] at hp2
                    subst hp2
                    have h60 : vp_in (nI ds.length) 60 := vp_in_nI (by omega) (by decide)
                    have ecl : (nI ds.length).toNatClampNeg = ds.length := nI_clamp (by omega)
                    have hkm : sBm (sOpn g fr c' (sBox g p)) (sBox g p) < sMM g := sCan_lt (sHas_lt hg.1 m2).2
                    refine And.intro h60 (And.intro h60 ?_)
                    obtain ⟨I4, hI4⟩ : ∃ I4 : zI, I4 = zup (zup I3 21 (nI ds.length).toNatClampNeg (nI (sBox g p))) 22 (nI ds.length).toNatClampNeg (nI (sBm (sOpn g fr c' (sBox g p)) (sBox g p))) := ⟨_, rfl⟩
                    have hf4 : zFr tP I3 I4 := by rw [hI4]; exact zFr_up (zFr_up (zFr_0 _ _) rfl) rfl
                    have hfI4 := zFr_tr hfI3 hf4
                    show zC G (n + 7) 27 [.ref 0, .int (nI p), .int (nI (sBm (sOpn g fr c' (sBox g p)) (sBox g p)))] (zup (zup I3 21 (nI ds.length).toNatClampNeg (nI (sBox g p))) 22 (nI ds.length).toNatClampNeg (nI (sBm (sOpn g fr c' (sBox g p)) (sBox g p)))) L (zR1 q) _
                    rw [← hI4]
                    refine c_moveOf (mG_tP hg hfI4) hp1 (by omega) ?_
                    rw [(sMv_ok hg.1 hkm).1]
                    have qq := p180 (sMv g p (sBm (sOpn g fr c' (sBox g p)) (sBox g p))) _ _ I4 q1 q2 hS ?_ ?_ ?_ hfI4
                    · rw [snoc_len, ← nI_1] at qq
                      exact zP_lv (by exact ⟨rfl, rfl, rfl, rfl, rfl, rfl, trivial⟩) qq
                    · rw [hI4]
                      exact mC_of hc3 (by rw [zup_ne (by decide), zup_ne (by decide)]) (by rw [zup_ne (by decide), zup_ne (by decide)]) (by rw [zup_ne (by decide), zup_ne (by decide)]) (by rw [zup_ne (by decide), zup_ne (by decide)]) (by rw [zup_ne (by decide), zup_ne (by decide)])
                    · intro j d hj
                      rw [hI4, ecl, Nat.zero_add, zup_ne (by decide), zup_eq, zup_eq, zup_ne (by decide)]
                      rcases snoc_get hj with ⟨a1, a2⟩ | ⟨a1, a2⟩
                      · rw [if_pos a1, if_pos a1, a2]
                        exact ⟨rfl, rfl⟩
                      · rw [if_neg (by omega), if_neg (by omega)]
                        have x := mDr_tC hdr2 hf3 j d a2
                        rw [Nat.zero_add] at x
                        exact x
                    · have x := mT_tC hts2 hf3
                      rw [hI4]
                      exact ⟨by rw [zup_ne (by decide), zup_ne (by decide)]; exact x.1, fun j y hy => by rw [zup_ne (by decide), zup_ne (by decide)]; exact x.2 j y hy⟩
                  · rw [if_neg (by omega)] at hp2
                    have qq := ihl (k + 1) (l - (sOpn g fr c' (sBox g p)).1 (9 * sBox g p + k)) (by omega) (by omega) (by omega) hp2
                    rw [← nI_1, ← pk_sub z4, ← eb] at qq
                    exact qq
              have qq := loop 9 0 _ (by omega) m3 (by omega) rfl
              exact zP_lv (by exact ⟨rfl, rfl, rfl, rfl, rfl, rfl, rfl, rfl, trivial⟩) qq
            · rw [if_pos z3] at hS
              subst hS
              have es2 : I2 2 (nI p).toNatClampNeg = nI (sWork g p) := by rw [nI_clamp (by omega)]; exact (mPos_R hg.1 hm2 hr).2.1
              refine b86_15 (And.intro inp (pk_le 2 (sWork g p) (fun z4 => absurd z4 (by omega)) (fun _ => And.intro (fun _ => ?_) (fun z4 => absurd z4 (zon_ne (by omega)))) rfl es2 (by omega) (by omega)))
              exact zP_lv (by exact ⟨rfl, rfl, rfl, rfl, rfl, trivial⟩) (fin I2 hc2 hdr2 hts2 hfI2)
          have eop : I' 4 (nI (sBox g p)).toNatClampNeg = zbo (c'.2.1 (sBox g p)) := by rw [ecb]; exact hc'.2.1 _ hb1
          refine c_boxOf hg' hp1 (And.intro inbx ?_)
          show (¬ I' 4 (nI (sBox g p)).toNatClampNeg = 0 → _) ∧ (I' 4 (nI (sBox g p)).toNatClampNeg = 0 → _)
          rw [eop]
          refine zbo_ne (fun z3 => ?_) (fun z3 => ?_)
          · have e : sOpn g fr c' (sBox g p) = c' := by unfold sOpn; rw [if_pos z3]
            exact zP_lv (by exact ⟨rfl, rfl, rfl, rfl, rfl, rfl, trivial⟩) (p68 I' (by rw [e]; exact hc') (zFr_0 _ _))
          · have e : sOpn g fr c' (sBox g p) = (cFill g (sBox g p) (fr (min 20 (sStn g (sBox g p)))) (cSetOp c' (sBox g p) true) (sMM g)).1 := by unfold sOpn; rw [if_neg (by rw [z3]; exact Bool.false_ne_true)]
            refine c_openBox hg' (mF_tP hfr hfI) hbp z3 hci.1 hc' hu' trivial fun I2 w2 hc2 _ _ hf2 => And.intro rfl ?_
            exact zP_lv (by exact ⟨rfl, rfl, rfl, rfl, rfl, rfl, trivial⟩) (p68 I2 (by rw [e]; exact hc2) hf2)
  refine zin0 rfl rfl rfl (b86_0 (c_first hg ?_))
  refine zP_lv ?_ (key 21 (sFirst g) c [] [] (zup I 0 46 0) (by omega) (pInv_0 hg.1 hin) hS0 (mC_of hc (zup_ne (by decide)) (zup_ne (by decide)) rfl rfl rfl) (fun j d hj => by cases hj) ⟨zup_self, fun j x hj => by cases hj⟩ (zFr_up (zFr_0 _ _) rfl))
  exact ⟨rfl, rfl, rfl, rfl, rfl, trivial⟩
end
