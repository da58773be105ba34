-- ===== the reference: the rules, paying =====
theorem pk_ne {x y : Int32} {A B : Prop} (a b : Nat) (f : a ≠ b → A) (g : a = b → B) (hx : x = nI a := by rfl) (hy : y = nI b := by rfl) (ha : a < 2 ^ 31 := by omega) (hb : b < 2 ^ 31 := by omega) : (¬ x = y → A) ∧ (x = y → B) := And.intro (pk_eq a b g f hx hy ha hb).2 (pk_eq a b g f hx hy ha hb).1
theorem iI_mul (a b : Int) : iI a * iI b = iI (a * b) := (Int32.ofInt_mul a b).symm
theorem iI_neg (a : Int) : -(iI a) = iI (-a) := (Int32.ofInt_neg a).symm
theorem iI_nat {z : Int} (h : 0 ≤ z) : iI z = nI z.toNat := by rw [← iI_n, Int.toNat_of_nonneg h]
theorem iI_lt {a b : Int} (h1 : -1000000 ≤ a) (h2 : a ≤ 1000000) (h3 : -1000000 ≤ b) (h4 : b ≤ 1000000) : iI a < iI b ↔ a < b := by rw [Int32.lt_iff_toInt_lt, iI_toInt h1 h2, iI_toInt h3 h4]
theorem iI_inj {a b : Int} (h1 : -1000000 ≤ a) (h2 : a ≤ 1000000) (h3 : -1000000 ≤ b) (h4 : b ≤ 1000000) : iI a = iI b ↔ a = b := by rw [← Int32.toInt_inj, iI_toInt h1 h2, iI_toInt h3 h4]
/-- the rules told: amounts, times, refills -/
abbrev zrl : Type := (Nat → Nat → Int) × (Nat → Nat → Bool) × (Nat → Nat)
def mRl (nr : Nat) (rl : zrl) (ru : Option Nat) (I : zI) : Prop := nr ≤ 8 ∧ I 0 18 = nI nr ∧ I 0 22 = zon ru ∧ (∀ r, ru = some r → r < nr) ∧ ∀ r, r < nr → (∀ e, e < 3 → I 7 (3 * r + e) = iI (rl.1 r e) ∧ -99 ≤ rl.1 r e ∧ rl.1 r e ≤ 99 ∧ I 8 (3 * r + e) = zbo (rl.2.1 r e)) ∧ I 9 r = nI (rl.2.2 r) ∧ rl.2.2 r ≤ 99
/-- what the rule r does at the end e to the move ahead of which i were -/
def sAmt (rl : zrl) (r e i : Nat) : Int := rl.1 r e * (if rl.2.1 r e = true then ((i + 1 : Nat) : Int) else 1)
def cPay (c : sC) (k : Nat) (x : Int) : sC := if 0 ≤ x then cGive c k x.toNat else cSetSp (cSetBd c k (c.1 k - min (-x).toNat (c.1 k))) (c.2.2.2.1 + min (-x).toNat (c.1 k))
def sPays (rl : zrl) (r e : Nat) : List (Nat × Nat) → Nat → sC → sC
  | [], _, c => c
  | d :: ds, i, c => sPays rl r e ds (i + 1) (cPay c (9 * d.1 + d.2) (sAmt rl r e i))
def sRefs (g : zg) (x : Nat) : List (Nat × Nat) → sC → sC
  | [], c => c
  | d :: ds, c => sRefs g x ds (cRefill g d.1 x c)
def sPayAll (g : zg) (rl : zrl) (ru : Option Nat) (e : Nat) (ds : List (Nat × Nat)) (em : Option Nat) (c : sC) : sC := match ru with
  | none => c
  | some r => if rl.2.2 r = 0 then sPays rl r e ds 0 c else match em with
    | none => sRefs g (rl.2.2 r) ds (sPays rl r e ds 0 c)
    | some b => cRefill g b (rl.2.2 r) (sRefs g (rl.2.2 r) ds (sPays rl r e ds 0 c))
/-- what was drawn: boxes and moves -/
def mDr (off : Nat) (ds : List (Nat × Nat)) (I : zI) : Prop := ∀ j d, ds[j]? = some d → I 21 (off + j) = nI d.1 ∧ I 22 (off + j) = nI d.2
theorem mDr_tl {off : Nat} {d : Nat × Nat} {ds : List (Nat × Nat)} {I : zI} (h : mDr off (d :: ds) I) : mDr (off + 1) ds I := fun j x hx => by
  have q := h (j + 1) x hx
  rw [show off + (j + 1) = off + 1 + j by omega] at q
  exact q
theorem cAll_pay {c : sC} (h : cAll c) {k : Nat} (hk : k < 177147) (x : Int) : cAll (cPay c k x) := by
  unfold cPay
  split
  · exact cAll_give h hk
  · have q := sSum_fup (f := c.1) (v := c.1 k - min (-x).toNat (c.1 k)) 177147 hk
    have hm : min (-x).toNat (c.1 k) ≤ c.1 k := Nat.min_le_right _ _
    unfold cAll at h ⊢
    show sSum (fup c.1 k (c.1 k - min (-x).toNat (c.1 k))) 177147 + c.2.2.1 + (c.2.2.2.1 + min (-x).toNat (c.1 k)) = 10000
    omega
theorem sPays_all {rl : zrl} {r e : Nat} : ∀ (ds : List (Nat × Nat)) (i : Nat) (c : sC), cAll c → (∀ d, d ∈ ds → d.1 < 19683 ∧ d.2 < 9) → cAll (sPays rl r e ds i c) := by
  intro ds
  induction ds with
  | nil =>
    intro i c h _
    rw [sPays]
    exact h
  | cons d ds ih =>
    intro i c h hd
    rw [sPays]
    exact ih _ _ (cAll_pay h (by have := hd d List.mem_cons_self; omega) _) (fun x hx => hd x (List.mem_cons_of_mem _ hx))
theorem sRefs_all {g : zg} {x : Nat} (hg : gOk g) : ∀ (ds : List (Nat × Nat)) (c : sC), cAll c → (∀ d, d ∈ ds → d.1 < 19683 ∧ d.2 < 9) → cAll (sRefs g x ds c) := by
  intro ds
  induction ds with
  | nil =>
    intro c h _
    rw [sRefs]
    exact h
  | cons d ds ih =>
    intro c h hd
    rw [sRefs]
    exact ih _ (cRefill_all h (hd d List.mem_cons_self).1 hg) (fun x hx => hd x (List.mem_cons_of_mem _ hx))
theorem sPayAll_all {g : zg} {rl : zrl} {ru : Option Nat} {e : Nat} {ds : List (Nat × Nat)} {em : Option Nat} {c : sC} (hg : gOk g) (h : cAll c) (hd : ∀ d, d ∈ ds → d.1 < 19683 ∧ d.2 < 9) (hem : ∀ b, em = some b → b < 19683) : cAll (sPayAll g rl ru e ds em c) := by
  unfold sPayAll
  cases ru with
  | none => exact h
  | some r =>
    have a1 := sPays_all (rl := rl) (r := r) (e := e) ds 0 c h hd
    have a2 := sRefs_all (x := rl.2.2 r) hg ds _ a1 hd
    show cAll (if rl.2.2 r = 0 then _ else _)
    split
    · exact a1
    · cases em with
      | none => exact a2
      | some b => exact cRefill_all a2 (hem b rfl) hg
theorem tC_0 {k : Nat} (h : k < 14 ∨ (16 < k ∧ k ≠ 36)) : tC 0 k = false := by
  unfold tC
  have e (a : Nat) (ha : k ≠ a) : Nat.beq k a = false := by
    cases q : Nat.beq k a with
    | false => rfl
    | true => exact absurd (Nat.eq_of_beq_eq_true q) ha
  rw [e 14 (by omega), e 15 (by omega), e 16 (by omega), e 36 (by omega)]
  rfl
section
variable {G : zG} {n : Nat} {I : zI} {L : zL} {q : zq} {post : zPo} {g : zg} {c : sC} {w : uW}
theorem mRl_of {nr : Nat} {rl : zrl} {ru : Option Nat} {I' : zI} (h : mRl nr rl ru I) (h18 : I' 0 18 = I 0 18) (h22 : I' 0 22 = I 0 22) (h7 : I' 7 = I 7) (h8 : I' 8 = I 8) (h9 : I' 9 = I 9) : mRl nr rl ru I' := by
  unfold mRl
  rw [h18, h22, h7, h8, h9]
  exact h
theorem mDr_tC {off : Nat} {ds : List (Nat × Nat)} {I' : zI} (h : mDr off ds I) (hf : zFr tC I I') : mDr off ds I' := fun j d hd => ⟨(hf 21 _ rfl).trans (h j d hd).1, (hf 22 _ rfl).trans (h j d hd).2⟩
theorem zFr_row {o : Nat} {t : Nat → Nat → Bool} {I' : zI} (hf : zFr t I I') (h : ∀ k, t o k = false) : I' o = I o := funext fun k => hf o k (h k)
theorem mRl_tC {nr : Nat} {rl : zrl} {ru : Option Nat} {I' : zI} (h : mRl nr rl ru I) (hf : zFr tC I I') : mRl nr rl ru I' := mRl_of h (hf 0 18 rfl) (hf 0 22 rfl) (zFr_row hf fun _ => rfl) (zFr_row hf fun _ => rfl) (zFr_row hf fun _ => rfl)
/-- paying of a list, from i on -/
theorem pays_go {nr : Nat} {rl : zrl} {r off how ln : Nat} {em : Int32} (hrl : mRl nr rl (some r) I) (hg : mG g I) (hhow : how < 3) (hln : ln ≤ 20) (hoff : off + ln ≤ 60) {T : sC} {Kt : Nat} (hK : ∀ (I' : zI) (w' : uW), mC T I' → mU w' I' → uSt w c Kt w' T → zFr tC I I' → zQ G 88 (n + 4) post 149 [some (.ref 0), some (.int (nI off)), some (.int (nI ln)), some (.int em), some (.int (nI how)), none, none, none, none] [] I' L (zR1 q)) :
    ∀ (ds : List (Nat × Nat)) (i k : Nat) (c' : sC) (I' : zI) (w' : uW), i + ds.length = ln → k + 2 * ds.length = Kt → mDr (off + i) ds I → (∀ d, d ∈ ds → d.1 < 19683 ∧ d.2 < 9) → sPays rl r how ds i c' = T → cAll c' → mC c' I' → mU w' I' → uSt w c k w' c' → uRoom w' (2 * ds.length) → zFr tC I I' →
    zQ G 88 (n + 4) post 12 [some (.ref 0), some (.int (nI off)), some (.int (nI ln)), some (.int em), some (.int (nI how)), some (.int (nI i)), none, none, none] [] I' L (zR1 q) := by
  intro ds
  induction ds with
  | nil =>
    intro i k c' I' w' hi hk _ _ hT _ hc hw hs _ hf
    have hi : i = ln := hi
    have hk : k = Kt := hk
    subst hT
    refine b88_12 (pk_le ln i (fun _ => zP_lv (by exact ⟨rfl, rfl, rfl, rfl, rfl, trivial⟩) (hK I' w' hc hw (by rw [← hk]; exact hs) hf)) (fun z => absurd z (by omega)) rfl rfl (by omega) (by omega))
  | cons d ds ih =>
    intro i k c' I' w' hi hk hdr hd hT hall hc hw hs hroom hf
    have hlen : (d :: ds).length = ds.length + 1 := rfl
    rw [hlen] at hi hk hroom
    obtain ⟨d1, d2⟩ := hd d List.mem_cons_self
    have x1 : I' 21 (off + i) = nI d.1 := (hf 21 _ rfl).trans (hdr 0 d rfl).1
    have x2 : I' 22 (off + i) = nI d.2 := (hf 22 _ rfl).trans (hdr 0 d rfl).2
    have hrl' := mRl_tC hrl hf
    obtain ⟨r1, r2, r3, r4, r5⟩ := id hrl'
    have hr := r4 r rfl
    obtain ⟨y1, y2, y3, y4⟩ := (r5 r hr).1 how hhow
    have r3 : I' 0 22 = nI r := r3
    have eoi : nI off + nI i = nI (off + i) := nI_add _ _
    have inb : vp_in (nI off + nI i) 60 := by rw [eoi]; exact vp_in_nI (by omega) (by decide)
    have ecl : (nI off + nI i).toNatClampNeg = off + i := by rw [eoi, nI_clamp (by omega)]
    have eri : (3 : Int32) * I' 0 22 + nI how = nI (3 * r + how) := by rw [r3, show (3 : Int32) = nI 3 from rfl, pk_mul, nI_add]
    have inr : vp_in ((3 : Int32) * I' 0 22 + nI how) 24 := by rw [eri]; exact vp_in_nI (by omega) (by decide)
    have ecr : ((3 : Int32) * I' 0 22 + nI how).toNatClampNeg = 3 * r + how := by rw [eri, nI_clamp (by omega)]
    refine b88_12 (pk_le ln i (fun z => absurd z (by omega)) (fun _ => And.intro inb (And.intro inb (And.intro inr (And.intro inr ?_)))) rfl rfl (by omega) (by omega))
    have ek : (9 : Int32) * I' 21 (nI off + nI i).toNatClampNeg + I' 22 (nI off + nI i).toNatClampNeg = nI (9 * d.1 + d.2) := by rw [ecl, x1, x2, show (9 : Int32) = nI 9 from rfl, pk_mul, nI_add]
    have ea : I' 7 ((3 : Int32) * I' 0 22 + nI how).toNatClampNeg = iI (rl.1 r how) := by rw [ecr, y1]
    have et : I' 8 ((3 : Int32) * I' 0 22 + nI how).toNatClampNeg = zbo (rl.2.1 r how) := by rw [ecr, y4]
    have hx1 : -99 * 20 ≤ sAmt rl r how i := by
      unfold sAmt
      split
      · have : rl.1 r how * ((i + 1 : Nat) : Int) ≥ -99 * ((i + 1 : Nat) : Int) := Int.mul_le_mul_of_nonneg_right y2 (by omega)
        omega
      · omega
    have hx2 : sAmt rl r how i ≤ 99 * 20 := by
      unfold sAmt
      split
      · have : rl.1 r how * ((i + 1 : Nat) : Int) ≤ 99 * ((i + 1 : Nat) : Int) := Int.mul_le_mul_of_nonneg_right y3 (by omega)
        omega
      · omega
    have hk0 : 9 * d.1 + d.2 < 177147 := by omega
    have hbd := cAll_bd hall hk0
    -- the rest, from 81 on
    have p81 : ∀ mu : Int32, mu = iI (if rl.2.1 r how = true then ((i + 1 : Nat) : Int) else 1) → zQ G 88 (n + 4) post 81 [some (.ref 0), some (.int (nI off)), some (.int (nI ln)), some (.int em), some (.int (nI how)), some (.int (nI i)), some (.int (nI (9 * d.1 + d.2))), none, none] [.int mu, .int (iI (rl.1 r how))] I' L (zR1 q) := by
      intro mu hmu
      have em2 : iI (rl.1 r how) * mu = iI (sAmt rl r how i) := by rw [hmu, iI_mul]; rfl
      refine b88_81 ?_
      show (iI (rl.1 r how) * mu < 0 → _) ∧ (¬ iI (rl.1 r how) * mu < 0 → _)
      rw [em2]
      refine And.intro (fun z => ?_) (fun z => ?_)
      · have z : sAmt rl r how i < 0 := (iI_lt (b := 0) (by omega) (by omega) (by omega) (by omega)).mp z
        have ek2 : (nI (9 * d.1 + d.2)).toNatClampNeg = 9 * d.1 + d.2 := nI_clamp (by omega)
        have inb5 : vp_in (nI (9 * d.1 + d.2)) 177147 := vp_in_nI hk0 (by decide)
        have e5 : I' 5 (nI (9 * d.1 + d.2)).toNatClampNeg = nI (c'.1 (9 * d.1 + d.2)) := by rw [ek2]; exact hc.1 _ hk0
        have emin : (if I' 5 (nI (9 * d.1 + d.2)).toNatClampNeg < -(iI (sAmt rl r how i)) then I' 5 (nI (9 * d.1 + d.2)).toNatClampNeg else -(iI (sAmt rl r how i))) = nI (min (-(sAmt rl r how i)).toNat (c'.1 (9 * d.1 + d.2))) := by
          rw [e5, iI_neg, iI_nat (show 0 ≤ -(sAmt rl r how i) by omega)]
          by_cases zz : c'.1 (9 * d.1 + d.2) < (-(sAmt rl r how i)).toNat
          · rw [if_pos ((nI_ltI (by omega) (by omega)).mpr zz), Nat.min_eq_right (by omega)]
          · rw [if_neg (fun z2 => zz ((nI_ltI (by omega) (by omega)).mp z2)), Nat.min_eq_left (by omega)]
        have hmin : min (-(sAmt rl r how i)).toNat (c'.1 (9 * d.1 + d.2)) ≤ c'.1 (9 * d.1 + d.2) := Nat.min_le_right _ _
        refine b88_101 (And.intro inb5 (And.intro inb5 ?_))
        show zC G (n + 4) 30 [.ref 0, .int (nI (9 * d.1 + d.2)), .int (I' 5 (nI (9 * d.1 + d.2)).toNatClampNeg - (if I' 5 (nI (9 * d.1 + d.2)).toNatClampNeg < -(iI (sAmt rl r how i)) then I' 5 (nI (9 * d.1 + d.2)).toNatClampNeg else -(iI (sAmt rl r how i))))] I' L (zR1 q) _
        rw [emin, e5, pk_sub hmin]
        refine c_setBeads hk0 (by omega) hc hw (uRoom_le hroom (by omega)) fun I1 w1 hc1 hw1 hs1 hf1 => ?_
        show zC G (n + 4) 32 [.ref 0, .int (I1 0 15 + nI (min (-(sAmt rl r how i)).toNat (c'.1 (9 * d.1 + d.2))))] I1 L (zR1 q) _
        rw [show I1 0 15 = nI c'.2.2.2.1 from hc1.2.2.2.1, nI_add]
        refine c_setSpent (by show c'.2.2.2.1 < 2 ^ 31; omega) hc1 hw1 (uRoom_st (k := 1) hs1 (uRoom_le hroom (by omega))) fun I2 w2 hc2 hw2 hs2 hf2 => b88_143 ?_
        have ep : cPay c' (9 * d.1 + d.2) (sAmt rl r how i) = cSetSp (cSetBd c' (9 * d.1 + d.2) (c'.1 (9 * d.1 + d.2) - min (-(sAmt rl r how i)).toNat (c'.1 (9 * d.1 + d.2)))) (c'.2.2.2.1 + min (-(sAmt rl r how i)).toNat (c'.1 (9 * d.1 + d.2))) := by unfold cPay; rw [if_neg (by omega)]
        have qq := ih (i + 1) (k + 2) _ I2 w2 (by omega) (by omega) (by rw [← Nat.add_assoc]; exact mDr_tl hdr) (fun x hx => hd x (List.mem_cons_of_mem _ hx)) hT (cAll_pay hall hk0 _) (by rw [ep]; exact hc2) hw2 (by rw [ep]; exact uSt_tr hs (uSt_tr hs1 hs2)) (uRoom_st (k := 1) hs2 (uRoom_st (k := 1) hs1 (uRoom_le hroom (by omega)))) (zFr_tr hf (zFr_tr hf1 hf2))
        rw [← nI_1] at qq
        exact zP_lv (by exact ⟨rfl, rfl, rfl, rfl, rfl, rfl, trivial⟩) qq
      · have z : ¬ sAmt rl r how i < 0 := fun zz => z ((iI_lt (b := 0) (by omega) (by omega) (by omega) (by omega)).mpr zz)
        have ep : cPay c' (9 * d.1 + d.2) (sAmt rl r how i) = cGive c' (9 * d.1 + d.2) (sAmt rl r how i).toNat := by unfold cPay; rw [if_pos (by omega)]
        show zC G (n + 4) 35 [.ref 0, .int (nI (9 * d.1 + d.2)), .int (iI (sAmt rl r how i))] I' L (zR1 q) _
        rw [iI_nat (by omega)]
        refine c_give hk0 (by omega) (by omega) (by omega) hc hw (uRoom_le hroom (by omega)) fun I2 w2 hc2 hw2 hs2 hf2 => And.intro rfl (b88_143 ?_)
        have qq := ih (i + 1) (k + 2) _ I2 w2 (by omega) (by omega) (by rw [← Nat.add_assoc]; exact mDr_tl hdr) (fun x hx => hd x (List.mem_cons_of_mem _ hx)) hT (cAll_pay hall hk0 _) (by rw [ep]; exact hc2) hw2 (by rw [ep]; exact uSt_tr hs hs2) (uRoom_st (k := 2) hs2 (uRoom_le hroom (by omega))) (zFr_tr hf hf2)
        rw [← nI_1] at qq
        exact zP_lv (by exact ⟨rfl, rfl, rfl, rfl, rfl, rfl, trivial⟩) qq
    show (I' 8 ((3 : Int32) * I' 0 22 + nI how).toNatClampNeg = 0 → _) ∧ (¬ I' 8 ((3 : Int32) * I' 0 22 + nI how).toNatClampNeg = 0 → _)
    rw [et]
    refine zbo_eq (fun z => ?_) (fun z => ?_)
    · have qq := p81 1 (by rw [if_neg (by rw [z]; exact Bool.false_ne_true)]; rfl)
      rw [← ek, ← ea] at qq
      exact b88_80 qq
    · have qq := p81 (nI i + 1) (by rw [if_pos z, nI_1]; rfl)
      rw [← ek, ← ea] at qq
      exact qq
/-- filling again -/
theorem refs_go {nr : Nat} {rl : zrl} {r off ln how : Nat} {em : Int32} (hrl : mRl nr rl (some r) I) (hg : mG g I) (hln : ln ≤ 20) (hoff : off + ln ≤ 60) {T : sC} {Kt : Nat} (hK : ∀ (I' : zI) (w' : uW), mC T I' → mU w' I' → uSt w c Kt w' T → zFr tC I I' → zQ G 88 (n + 5) post 190 [some (.ref 0), some (.int (nI off)), some (.int (nI ln)), some (.int em), some (.int (nI how)), none, none, none, none] [] I' L (zR1 q)) :
    ∀ (ds : List (Nat × Nat)) (i k : Nat) (c' : sC) (I' : zI) (w' : uW), i + ds.length = ln → k + 18 * ds.length = Kt → mDr (off + i) ds I → (∀ d, d ∈ ds → pOk g d.1) → sRefs g (rl.2.2 r) ds c' = T → cAll c' → mC c' I' → mU w' I' → uSt w c k w' c' → uRoom w' (18 * ds.length) → zFr tC I I' →
    zQ G 88 (n + 5) post 165 [some (.ref 0), some (.int (nI off)), some (.int (nI ln)), some (.int em), some (.int (nI how)), some (.int (nI i)), none, none, none] [] I' L (zR1 q) := by
  intro ds
  induction ds with
  | nil =>
    intro i k c' I' w' hi hk _ _ hT _ hc hw hs _ hf
    have hi : i = ln := hi
    have hk : k = Kt := hk
    subst hT
    refine b88_165 (pk_le ln i (fun _ => zP_lv (by exact ⟨rfl, rfl, rfl, rfl, rfl, trivial⟩) (hK I' w' hc hw (by rw [← hk]; exact hs) hf)) (fun z => absurd z (by omega)) rfl rfl (by omega) (by omega))
  | cons d ds ih =>
    intro i k c' I' w' hi hk hdr hd hT hall hc hw hs hroom hf
    have hlen : (d :: ds).length = ds.length + 1 := rfl
    rw [hlen] at hi hk hroom
    have hpd := hd d List.mem_cons_self
    have x1 : I' 21 (off + i) = nI d.1 := (hf 21 _ rfl).trans (hdr 0 d rfl).1
    have hrl' := mRl_tC hrl hf
    obtain ⟨r1, r2, r3, r4, r5⟩ := id hrl'
    have hr := r4 r rfl
    have r3 : I' 0 22 = nI r := r3
    have eoi : nI off + nI i = nI (off + i) := nI_add _ _
    have inb : vp_in (nI off + nI i) 60 := by rw [eoi]; exact vp_in_nI (by omega) (by decide)
    have ecl : (nI off + nI i).toNatClampNeg = off + i := by rw [eoi, nI_clamp (by omega)]
    refine b88_165 (pk_le ln i (fun z => absurd z (by omega)) (fun _ => And.intro inb ?_) rfl rfl (by omega) (by omega))
    show zC G (n + 5) 89 [.ref 0, .int (I' 21 (nI off + nI i).toNatClampNeg)] I' L (zR1 q) _
    rw [ecl, x1]
    refine c_refill (mG_tC hg hf) hpd r3 (by omega) (r5 r hr).2.1 (r5 r hr).2.2 hall hc hw (uRoom_le hroom (by omega)) fun I2 w2 hc2 hw2 hs2 hf2 => ?_
    have qq := ih (i + 1) (k + 18) _ I2 w2 (by omega) (by omega) (by rw [← Nat.add_assoc]; exact mDr_tl hdr) (fun x hx => hd x (List.mem_cons_of_mem _ hx)) hT (cRefill_all hall hpd.1 hg.1) hc2 hw2 (uSt_tr hs hs2) (uRoom_st (k := 18) hs2 (uRoom_le hroom (by omega))) (zFr_tr hf hf2)
    rw [← nI_1] at qq
    exact qq
theorem zon_ne {b : Nat} (hb : b < 2 ^ 31) : ¬ nI b = -1 := fun z => by
  have h1 := nI_pos' hb
  rw [z] at h1
  exact absurd h1 (by decide)
theorem c_payAll {nr : Nat} {rl : zrl} {ru : Option Nat} {off how : Nat} {ds : List (Nat × Nat)} {em : Option Nat} (hg : mG g I) (hrl : mRl nr rl ru I) (hhow : how < 3) (hln : ds.length ≤ 20) (hoff : off + ds.length ≤ 60) (hdr : mDr off ds I) (hd : ∀ d, d ∈ ds → pOk g d.1 ∧ d.2 < 9) (hem : ∀ b, em = some b → pOk g b) (hall : cAll c) (hc : mC c I) (hw : mU w I) (hr : uRoom w 418) (h : ∀ (I' : zI) (w' : uW), mC (sPayAll g rl ru how ds em c) I' → mU w' I' → uSt w c 418 w' (sPayAll g rl ru how ds em c) → zFr tC I I' → post none I' L (zR1 q)) : zC G (n + 6) 88 [.ref 0, .int (nI off), .int (nI ds.length), .int (zon em), .int (nI how)] I L (zR1 q) post := by
  have hd1 : ∀ d, d ∈ ds → d.1 < 19683 ∧ d.2 < 9 := fun d hx => ⟨(hd d hx).1.1, (hd d hx).2⟩
  refine zin0 rfl rfl rfl (b88_0 ?_)
  show (¬ I 0 22 = -1 → _) ∧ (I 0 22 = -1 → _)
  rw [hrl.2.2.1]
  cases ru with
  | none => exact And.intro (fun z => absurd rfl z) (fun _ => h I w hc hw (uSt_le (uSt_0 _ _) (by omega)) (zFr_0 _ _))
  | some r =>
    have hr8 : r < 8 := Nat.lt_of_lt_of_le (hrl.2.2.2.1 r rfl) hrl.1
    refine And.intro (fun _ => b88_9 ?_) (fun z => absurd z (zon_ne (by omega)))
    refine pays_go (n := n + 1) hrl hg hhow hln hoff (T := sPays rl r how ds 0 c) (Kt := 2 * ds.length) ?_ ds 0 0 c I w (by omega) (by omega) hdr hd1 rfl hall hc hw (uSt_0 _ _) (uRoom_le hr (by omega)) (zFr_0 _ _)
    intro I1 w1 hc1 hw1 hs1 hf1
    have hrl1 := mRl_tC hrl hf1
    obtain ⟨r1, r2, r3, r4, r5⟩ := id hrl1
    have r3 : I1 0 22 = nI r := r3
    have hrn := r4 r rfl
    obtain ⟨-, q1, q2⟩ := r5 r hrn
    have ec : (I1 0 22).toNatClampNeg = r := by rw [r3, nI_clamp (by omega)]
    refine b88_149 (And.intro (by show vp_in (I1 0 22) 8; rw [r3]; exact vp_in_nI hr8 (by decide)) ?_)
    show (¬ I1 9 (I1 0 22).toNatClampNeg = 0 → _) ∧ (I1 9 (I1 0 22).toNatClampNeg = 0 → _)
    rw [ec, q1]
    refine pk_ne (rl.2.2 r) 0 (fun z => b88_162 ?_) (fun z => ?_) rfl rfl (by omega) (by omega)
    · have h := h
      have hall1 := sPays_all (rl := rl) (r := r) (e := how) ds 0 c hall hd1
      refine refs_go (w := w1) (c := sPays rl r how ds 0 c) (I := I1) hrl1 (mG_tC hg hf1) hln hoff (T := sRefs g (rl.2.2 r) ds (sPays rl r how ds 0 c)) (Kt := 18 * ds.length) ?_ ds 0 0 _ I1 w1 (by omega) (by omega) (mDr_tC hdr hf1) (fun d hx => (hd d hx).1) rfl hall1 hc1 hw1 (uSt_0 _ _) (uRoom_st (k := 2 * ds.length) hs1 (uRoom_le hr (by omega))) (zFr_0 _ _)
      intro I2 w2 hc2 hw2 hs2 hf2
      refine b88_190 ?_
      cases em with
      | none =>
        refine And.intro (fun _ => b88_200 ?_) (fun z2 => absurd rfl z2)
        have e : sPayAll g rl (some r) how ds none c = sRefs g (rl.2.2 r) ds (sPays rl r how ds 0 c) := by
          show (if rl.2.2 r = 0 then _ else _) = _
          rw [if_neg z]
        rw [e] at h
        exact h I2 w2 hc2 hw2 (uSt_le (uSt_tr hs1 hs2) (by omega)) (zFr_tr hf1 hf2)
      | some b =>
        have hpb := hem b rfl
        refine And.intro (fun z2 => absurd z2 (zon_ne (by have := hpb.1; omega))) (fun _ => ?_)
        have e : sPayAll g rl (some r) how ds (some b) c = cRefill g b (rl.2.2 r) (sRefs g (rl.2.2 r) ds (sPays rl r how ds 0 c)) := by
          show (if rl.2.2 r = 0 then _ else _) = _
          rw [if_neg z]
        have hall2 := sRefs_all (x := rl.2.2 r) hg.1 ds _ hall1 hd1
        have hf12 := zFr_tr hf1 hf2
        have hrl2 := mRl_tC hrl hf12
        have q9 := hrl2.2.2.2.2 r hrn
        refine c_refill (mG_tC hg hf12) hpb hrl2.2.2.1 hr8 q9.2.1 q9.2.2 hall2 hc2 hw2 (uRoom_st (k := 18 * ds.length) hs2 (uRoom_st (k := 2 * ds.length) hs1 (uRoom_le hr (by omega)))) fun I3 w3 hc3 hw3 hs3 hf3 => b88_200 ?_
        rw [e] at h
        exact h I3 w3 hc3 hw3 (uSt_le (uSt_tr hs1 (uSt_tr hs2 hs3)) (by omega)) (zFr_tr hf12 hf3)
    · have e : sPayAll g rl (some r) how ds em c = sPays rl r how ds 0 c := by
        show (if rl.2.2 r = 0 then _ else _) = _
        rw [if_pos z]
      rw [e] at h
      exact h I1 w1 hc1 hw1 (uSt_le hs1 (by omega)) hf1
end
