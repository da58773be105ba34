-- ===== bits of longs (rows of the kit's laws/BITS, pasted) =====
theorem wb_tb (n : Nat) : (lN n).toBitVec = BitVec.ofNat 64 n := rfl
theorem wb_inj {a b : Int64} (h : a.toBitVec = b.toBitVec) : a = b := Int64.toBitVec_inj.mp h
theorem wb_c : ∀ k, k < 64 → ((nI k).toInt64 &&& 63) = lN k := by decide +kernel
theorem wb_sm : ∀ k, k < 64 → (BitVec.ofNat 64 k).smod 64 = BitVec.ofNat 64 k := by decide +kernel
theorem wb_shl (n : Nat) {k : Nat} (hk : k < 64) : lN n <<< ((nI k).toInt64 &&& 63) = lN (n * 2 ^ k) := by
  rw [wb_c k hk]
  apply wb_inj
  rw [Int64.toBitVec_shiftLeft, wb_tb, wb_tb, wb_tb, wb_sm k hk]
  apply BitVec.eq_of_toNat_eq
  rw [BitVec.shiftLeft_eq', BitVec.toNat_shiftLeft, BitVec.toNat_ofNat, BitVec.toNat_ofNat, BitVec.toNat_ofNat, Nat.mod_eq_of_lt (show k < 2 ^ 64 by omega), Nat.shiftLeft_eq, Nat.mul_mod, Nat.mod_mod, ← Nat.mul_mod]
theorem u_tn {n : Nat} (h : n < 2 ^ 64) : (UInt64.ofNat n).toNat = n := Nat.mod_eq_of_lt h
theorem g_and {a b c : Nat} (ha : a < 2 ^ 64) (hb : b < 2 ^ 64) (hc : a &&& b = c) : lN a &&& lN b = lN c := by
  subst hc
  have h : UInt64.ofNat a &&& UInt64.ofNat b = UInt64.ofNat (a &&& b) := UInt64.toNat_inj.mp (by rw [UInt64.toNat_and, u_tn ha, u_tn hb, u_tn (Nat.and_lt_two_pow a hb)])
  have h2 := congrArg UInt64.toInt64 h
  exact h2
theorem g_mask {a s p : Nat} (hp : 2 ^ s = p) (hs : s < 64) (ha : a < 2 ^ 64) : lN a &&& lN (p - 1) = lN (a % p) := by
  subst hp
  have := Nat.pow_lt_pow_right (show 1 < 2 by decide) hs
  exact g_and ha (by omega) (Nat.and_two_pow_sub_one_eq_mod a s)
theorem g_or {k p a b : Nat} (hp : 2 ^ k = p) (ha : a < p) (h : b * p + a < 2 ^ 64) : lN (b * p) ||| lN a = lN (b * p + a) := by
  subst hp
  have h1 : b * 2 ^ k ||| a = b * 2 ^ k + a := by rw [← Nat.shiftLeft_eq, Nat.shiftLeft_add_eq_or_of_lt ha]
  have h3 : UInt64.ofNat (b * 2 ^ k) ||| UInt64.ofNat a = UInt64.ofNat (b * 2 ^ k + a) := UInt64.toNat_inj.mp (by rw [UInt64.toNat_or, u_tn (by omega), u_tn (by omega), u_tn h, h1])
  have h2 := congrArg UInt64.toInt64 h3
  exact h2
theorem g_or' {k p a b : Nat} (hp : 2 ^ k = p) (ha : a < p) (h : a + b * p < 2 ^ 64) : lN a ||| lN (b * p) = lN (a + b * p) := by
  rw [Int64.or_comm, g_or hp ha (by omega), Nat.add_comm]
theorem pf_lI {a : Nat} (h : a < 2 ^ 63) : (lN a).toInt = (a : Int) := lg_ofNat_toInt h
theorem pf_shr {a d : Nat} {D : Int64} (hD : (D.toBitVec.smod 64).toNat = d) (h : a < 2 ^ 62) : lN a >>> D = lN (a / 2 ^ d) := by
  have hd : a / 2 ^ d ≤ a := Nat.div_le_self _ _
  apply Int64.toInt_inj.mp
  have e : (lN a >>> D).toInt = (lN a).toInt >>> d := by
    rw [← hD]
    exact BitVec.toInt_sshiftRight ..
  rw [e, Int.shiftRight_eq_div_pow, pf_lI (by omega), pf_lI (by omega)]
  rfl
-- ===== the reference: a foe told =====
/-- a part: its letter, share, wishes -/
abbrev zpt : Type := Nat × Nat × List Nat
def tWi (tx : Nat → Nat) (n : Nat) : Nat → Nat → List Nat → Nat → List Nat × Nat
  | 0, _, l, a => (l, a)
  | f + 1, sn, l, a => match tH tx n a with
    | some b => if (48 ≤ b ∧ b ≤ 56) ∧ sn / 2 ^ (b - 48) % 2 = 0 then tWi tx n f (sn + 2 ^ (b - 48)) (l ++ [b - 48]) (a + 1) else (l, a)
    | none => (l, a)
def tLet (tx : Nat → Nat) (n a : Nat) : Option Nat := if tH tx n a = some 102 then some 102 else if tH tx n a = some 109 then some 109 else if tH tx n a = some 116 then some 116 else if tH tx n a = some 114 then some 114 else none
def tPtB (tx : Nat → Nat) (n c : Nat) (l : List Nat) (p : Nat) : zpr zpt := zbd (tDig tx n 49 57 p) fun s p => (some (c, s, l), p)
def tPart (tx : Nat → Nat) (n a : Nat) : zpr zpt := match tLet tx n a with
  | none => (none, a)
  | some c => if c = 114 then (if (tWi tx n 41 0 [] (a + 1)).1 = [] then (none, (tWi tx n 41 0 [] (a + 1)).2) else zbd (tNeed tx n 58 (tWi tx n 41 0 [] (a + 1)).2) fun _ p => tPtB tx n c (tWi tx n 41 0 [] (a + 1)).1 p) else tPtB tx n c [] (a + 1)
def tFoe (tx : Nat → Nat) (n : Nat) : Nat → List zpt → Nat → zpr (List zpt)
  | 0, _, a => (none, a)
  | f + 1, ps, a => zbd (tPart tx n a) fun pt p => if tH tx n p = some 59 then tFoe tx n f (ps ++ [pt]) (p + 1) else tEnd n (ps ++ [pt]) p
def sPtk (ps : List zpt) (k : Nat) : zpt := (ps[k]?).getD (102, 1, [])
def sFoF (ps : List zpt) : zfo := (ps.length, fun k => (sPtk ps k).1, fun k => (sPtk ps k).2.1, fun k i => ((sPtk ps k).2.2[i]?).getD 0, fun k => (sPtk ps k).2.2.length)
def ptOk (pt : zpt) : Prop := (pt.1 = 102 ∨ pt.1 = 109 ∨ pt.1 = 116 ∨ pt.1 = 114) ∧ (1 ≤ pt.2.1 ∧ pt.2.1 ≤ 9) ∧ pt.2.2.length ≤ 9 ∧ ∀ d, d ∈ pt.2.2 → d ≤ 8
def tPk : List Nat → Nat
  | [] => 0
  | d :: l => d + 16 * tPk l
theorem tPk_lt : ∀ l : List Nat, (∀ d, d ∈ l → d ≤ 8) → tPk l < 16 ^ l.length
  | [], _ => Nat.one_pos
  | d :: l, h => by
    have q := tPk_lt l (fun x hx => h x (List.mem_cons_of_mem _ hx))
    have := h d List.mem_cons_self
    show d + 16 * tPk l < 16 ^ (l.length + 1)
    rw [Nat.pow_succ]
    omega
theorem tPk_snoc : ∀ (l : List Nat) (d : Nat), tPk (l ++ [d]) = tPk l + d * 16 ^ l.length
  | [], d => by show d + 16 * 0 = 0 + d * 1; omega
  | x :: l, d => by
    have q := tPk_snoc l d
    show x + 16 * tPk (l ++ [d]) = x + 16 * tPk l + d * 16 ^ (l.length + 1)
    rw [q, Nat.pow_succ, Nat.mul_add, Nat.add_assoc, Nat.mul_left_comm, Nat.mul_comm 16 (16 ^ l.length)]
theorem tPk_dig : ∀ (l : List Nat) (i : Nat), (∀ d, d ∈ l → d ≤ 8) → i < l.length → tPk l / 2 ^ (4 * i) % 16 = (l[i]?).getD 0
  | [], _, _, h => absurd h (Nat.not_lt_zero _)
  | d :: l, 0, hd, _ => by
    have := hd d List.mem_cons_self
    show (d + 16 * tPk l) / 1 % 16 = d
    omega
  | d :: l, i + 1, hd, h => by
    have h9 := hd d List.mem_cons_self
    have q := tPk_dig l i (fun x hx => hd x (List.mem_cons_of_mem _ hx)) (by have : i + 1 < l.length + 1 := h; omega)
    show (d + 16 * tPk l) / 2 ^ (4 * (i + 1)) % 16 = (l[i]?).getD 0
    rw [← q, show 4 * (i + 1) = 4 + 4 * i by omega, Nat.pow_add, ← Nat.div_div_eq_div_mul]
    congr 2
    show (d + 16 * tPk l) / 16 = tPk l
    omega
def sPc (s : Nat) : Nat := sCB (fun k => decide (s / 2 ^ k % 2 = 1)) 9
set_option maxRecDepth 100000 in
theorem sPc_add : ∀ d, d < 9 → ∀ s, s < 512 → s / 2 ^ d % 2 = 0 → sPc (s + 2 ^ d) = sPc s + 1 ∧ s + 2 ^ d < 512 ∧ nI s ||| ((1 : Int32) <<< (nI d &&& 31)) = nI (s + 2 ^ d) := by decide +kernel
theorem sPc_le (s : Nat) : sPc s ≤ 9 := sCB_le _ 9
theorem zshl4 : ∀ d, d < 9 → ∀ m, m < 9 → (nI d).toInt64 <<< (((4 : Int32) * nI m).toInt64 &&& 63) = lN (d * 2 ^ (4 * m)) := by decide +kernel
theorem zshr4 : ∀ i, i < 9 → ((((4 : Int32) * nI i).toInt64 &&& 63).toBitVec.smod 64).toNat = 4 * i := by decide +kernel
theorem tWish {l : List Nat} {i : Nat} (hl : l.length ≤ 9) (hd : ∀ d, d ∈ l → d ≤ 8) (hi : i < l.length) : ((lN (tPk l) >>> (((4 : Int32) * nI i).toInt64 &&& 63)) &&& 15).toInt32 = nI ((l[i]?).getD 0) := by
  have q := tPk_lt l hd
  have q2 : 16 ^ l.length ≤ 16 ^ 9 := Nat.pow_le_pow_right (by decide) hl
  have q3 : tPk l < 2 ^ 62 := by
    have : (16 : Nat) ^ 9 = 2 ^ 36 := by decide
    omega
  have q4 : tPk l / 2 ^ (4 * i) ≤ tPk l := Nat.div_le_self _ _
  rw [pf_shr (zshr4 i (by omega)) q3, show (15 : Int64) = lN (16 - 1) from rfl, g_mask (s := 4) rfl (by decide) (by omega), lN_i, tPk_dig l i hd hi]
section
variable {G : zG} {n : Nat} {I : zI} {L : zL} {q : zq} {post : zPo} {tx : Nat → Nat} {tn nf : Nat} {fo : Nat → zfo}
/-- a part's cells -/
def mPt (x : Nat) (pt : zpt) (I : zI) (L : zL) : Prop := I 11 x = nI pt.1 ∧ I 12 x = nI pt.2.1 ∧ I 14 x = nI pt.2.2.length ∧ L 13 x = lN (tPk pt.2.2)
def tFp (x o k : Nat) : Bool := (Nat.beq o 0 && (Nat.beq k 40 || Nat.beq k 41)) || ((Nat.beq o 11 || Nat.beq o 12 || Nat.beq o 14) && Nat.beq k x)
def lFp (x : Nat) (L L' : zL) : Prop := ∀ o j, ¬ (o = 13 ∧ j = x) → L' o j = L o j
theorem tFp_x {x o : Nat} (h : o = 11 ∨ o = 12 ∨ o = 14) : tFp x o x = true := by
  unfold tFp
  rw [Nat.beq_refl]
  rcases h with e | e | e <;> subst e <;> rfl
theorem c_foePart {f k a : Nat} (hf : f < 8) (hk : k < 14) (h23 : I 0 23 = nI f) (hp : mPr tx tn a none I) (h1 : ∀ pt p, tPart tx tn a = (some pt, p) → ptOk pt → a + 1 < p → p ≤ 41 → ∀ (I' : zI) (L' : zL), mPr tx tn p none I' → mPt (14 * f + k) pt I' L' → zFr (tFp (14 * f + k)) I I' → lFp (14 * f + k) L L' → post none I' L' (zR1 q)) (h0 : ∀ e, tPart tx tn a = (none, e) → ∀ (p : Nat) (I' : zI) (L' : zL), mPr tx tn p (some e) I' → zFr (tFp (14 * f + k)) I I' → lFp (14 * f + k) L L' → post none I' L' (zR1 q)) : zC G (n + 4) 57 [.ref 0, .int (nI k)] I L (zR1 q) post := by
  have h40 : I 0 40 = nI a := hp.2.2.1
  have ha60 := hp.2.2.2.1
  have e102 := tHv_eq hp (c := 102) (by decide)
  have e109 := tHv_eq hp (c := 109) (by decide)
  have e116 := tHv_eq hp (c := 116) (by decide)
  have e114 := tHv_eq hp (c := 114) (by decide)
  have k14 : (14 : Int32) * I 0 23 + nI k = nI (14 * f + k) := by rw [h23, show (14 : Int32) = nI 14 from rfl, pk_mul, nI_add]
  -- with the letter
  have p38 : ∀ c : Nat, (c = 102 ∨ c = 109 ∨ c = 116 ∨ c = 114) → tHv tx tn a = nI c → tLet tx tn a = some c → a < 40 → zQ G 57 (n + 3) post 38 [some (.ref 0), some (.int (nI k)), some (.int (nI c)), none, none, none, none, none] [] I L (zR1 q) := by
    intro c hc hv hL ha40
    have eP : tPart tx tn a = if c = 114 then (if (tWi tx tn 41 0 [] (a + 1)).1 = [] then (none, (tWi tx tn 41 0 [] (a + 1)).2) else zbd (tNeed tx tn 58 (tWi tx tn 41 0 [] (a + 1)).2) fun _ p => tPtB tx tn c (tWi tx tn 41 0 [] (a + 1)).1 p) else tPtB tx tn c [] (a + 1) := by unfold tPart; rw [hL]
    -- writing
    have p188 : ∀ (sh m : Nat) (lg : Int64) (x7 : Option Value) (I' : zI), (∀ (I2 : zI) (L2 : zL), I2 11 (14 * f + k) = nI c → I2 12 (14 * f + k) = nI sh → I2 14 (14 * f + k) = nI m → L2 13 (14 * f + k) = lg → (∀ o j, ¬ ((o = 11 ∨ o = 12 ∨ o = 14) ∧ j = 14 * f + k) → I2 o j = I' o j) → lFp (14 * f + k) L L2 → post none I2 L2 (zR1 q)) → zQ G 57 (n + 3) post 188 [some (.ref 0), some (.int (nI k)), some (.int (nI c)), some (.int (nI (14 * f + k))), some (.long lg), none, some (.int (nI m)), x7] [.int (nI sh)] I' L (zR1 q) := by
      intro sh m lg x7 I' hpost
      have vin : vp_in (nI (14 * f + k)) 112 := vp_in_nI (by omega) (by decide)
      have ec : (nI (14 * f + k)).toNatClampNeg = 14 * f + k := nI_clamp (by omega)
      refine zP_lv (lv' := [some (.ref 0), some (.int (nI k)), some (.int (nI c)), some (.int (nI (14 * f + k))), some (.long lg), none, some (.int (nI m)), none]) (by exact ⟨rfl, rfl, rfl, rfl, rfl, rfl, by cases x7 <;> trivial⟩) ?_
      refine b57_188 (And.intro vin (And.intro vin (And.intro vin (And.intro vin ?_))))
      show post none (zup (zup (zup I' 11 (nI (14 * f + k)).toNatClampNeg (vp_nar .char ((nI c).toUInt32 % 65536).toInt32)) 12 (nI (14 * f + k)).toNatClampNeg (nI sh)) 14 (nI (14 * f + k)).toNatClampNeg (nI m)) (zup L 13 (nI (14 * f + k)).toNatClampNeg lg) (zR1 q)
      have ech : vp_nar .char ((nI c).toUInt32 % 65536).toInt32 = nI c := by rcases hc with e | e | e | e <;> subst e <;> decide
      rw [ec, ech]
      refine hpost _ _ ?_ ?_ zup_self zup_self (fun o j hh => ?_) (fun o j hh => ?_)
      · rw [zup_ne (by decide), zup_ne (by decide), zup_self]
      · rw [zup_ne (by decide), zup_self]
      · unfold zup
        by_cases d14 : o = 14
        · rw [if_pos d14, if_neg (fun w => hh ⟨Or.inr (Or.inr d14), w⟩), if_neg (by omega), if_neg (by omega)]
        · rw [if_neg d14]
          by_cases d12 : o = 12
          · rw [if_pos d12, if_neg (fun w => hh ⟨Or.inr (Or.inl d12), w⟩), if_neg (by omega)]
          · rw [if_neg d12]
            by_cases d11 : o = 11
            · rw [if_pos d11, if_neg (fun w => hh ⟨Or.inl d11, w⟩)]
            · rw [if_neg d11]
      · unfold zup
        by_cases d13 : o = 13
        · rw [if_pos d13, if_neg (fun w => hh ⟨d13, w⟩)]
        · rw [if_neg d13]
    have frm : ∀ (I' I2 : zI), zFr (tFp (14 * f + k)) I I' → (∀ o j, ¬ ((o = 11 ∨ o = 12 ∨ o = 14) ∧ j = 14 * f + k) → I2 o j = I' o j) → zFr (tFp (14 * f + k)) I I2 := fun I' I2 hf' ho o j z => by
      rw [ho o j (fun ⟨w1, w2⟩ => by subst w2; rw [tFp_x w1] at z; cases z)]
      exact hf' o j z
    have prK : ∀ (p : Nat) (wo : Option Nat) (I' I2 : zI), mPr tx tn p wo I' → (∀ o j, ¬ ((o = 11 ∨ o = 12 ∨ o = 14) ∧ j = 14 * f + k) → I2 o j = I' o j) → mPr tx tn p wo I2 := fun p wo I' I2 ⟨b1, b2, b3, b4, b5, b6, b7⟩ ho => ⟨(ho 0 39 (by omega)).trans b1, b2, (ho 0 40 (by omega)).trans b3, b4, (ho 0 41 (by omega)).trans b5, b6, fun j hj => by rw [ho 16 j (by omega)]; exact b7 j hj⟩
    -- the share, or something is wrong
    have p169W : ∀ (e p m : Nat) (lg : Int64) (x7 : Option Value) (I' : zI), mPr tx tn p (some e) I' → tPart tx tn a = (none, e) → zFr (tFp (14 * f + k)) I I' → zQ G 57 (n + 3) post 169 [some (.ref 0), some (.int (nI k)), some (.int (nI c)), some (.int (nI (14 * f + k))), some (.long lg), none, some (.int (nI m)), x7] [] I' L (zR1 q) := by
      intro e p m lg x7 I' hp' hR hf'
      refine b57_169 (c_fine hp' (And.intro (fun _ => b57_187 (p188 0 m lg x7 I' fun I2 L2 _ _ _ _ ho hl => ?_)) (fun w => absurd rfl w)))
      exact h0 e hR p I2 L2 (prK p _ I' I2 hp' ho) (frm I' I2 hf' ho) hl
    have p169 : ∀ (l : List Nat) (p : Nat) (x7 : Option Value) (I' : zI), mPr tx tn p none I' → a < p → tPart tx tn a = tPtB tx tn c l p → l.length ≤ 9 → (∀ d, d ∈ l → d ≤ 8) → zFr (tFp (14 * f + k)) I I' → zQ G 57 (n + 3) post 169 [some (.ref 0), some (.int (nI k)), some (.int (nI c)), some (.int (nI (14 * f + k))), some (.long (lN (tPk l))), none, some (.int (nI l.length)), x7] [] I' L (zR1 q) := by
      intro l p x7 I' hp' hap hR hl9 hd8 hf'
      unfold tPtB at hR
      refine b57_169 (c_fine hp' (And.intro (fun w => absurd w (by decide)) (fun _ => c_digit (lo := 49) (hi := 57) rfl rfl (by decide) (by decide) hp' (fun s hs hs9 hp40 => ?_) (fun hs => ?_))))
      · rw [hs] at hR
        have hR : tPart tx tn a = (some (c, s, l), p + 1) := hR
        have hs1 := tDig_bd hs
        refine p188 s l.length (lN (tPk l)) x7 _ fun I2 L2 w1 w2 w3 w4 ho hl => ?_
        exact h1 (c, s, l) (p + 1) hR ⟨hc, by omega, hl9, hd8⟩ (by omega) (by omega) I2 L2 (prK (p + 1) _ _ I2 (mPr_at hp' (by omega)) ho) ⟨w1, w2, w3, w4⟩ (frm _ I2 (zFr_up hf' rfl) ho) hl
      · rw [hs] at hR
        have hR : tPart tx tn a = (none, p) := hR
        have hp60 := hp'.2.2.2.1
        refine p188 0 l.length (lN (tPk l)) x7 _ fun I2 L2 _ _ _ _ ho hl => ?_
        exact h0 p hR p I2 L2 (prK p _ _ I2 (mPr_wr hp' hp60) ho) (frm _ I2 (zFr_up hf' rfl) ho) hl
    -- behind the letter
    have hp1 := mPr_at hp (a' := a + 1) (by omega)
    have hf1 : zFr (tFp (14 * f + k)) I (zup I 0 40 (nI (a + 1))) := zFr_up (zFr_0 _ _) rfl
    have e40 : I 0 40 + 1 = nI (a + 1) := by rw [h40, nI_1]
    refine b57_38 (And.intro rfl ?_)
    refine pk_ne c 114 (fun z => ?_) (fun z => ?_) rfl rfl (by omega) (by omega)
    · rw [if_neg z] at eP
      have qq := p169 [] (a + 1) none _ hp1 (by omega) eP (Nat.zero_le _) (fun d hd => by cases hd) hf1
      rw [← e40, ← k14] at qq
      exact qq
    · rw [if_pos z] at eP
      -- behind the wishes
      have p150 : ∀ (l : List Nat) (p : Nat) (x7 : Int32) (I' : zI), tWi tx tn 41 0 [] (a + 1) = (l, p) → mPr tx tn p none I' → a < p → l.length ≤ 9 → (∀ d, d ∈ l → d ≤ 8) → zFr (tFp (14 * f + k)) I I' → zQ G 57 (n + 3) post 150 [some (.ref 0), some (.int (nI k)), some (.int (nI c)), some (.int (nI (14 * f + k))), some (.long (lN (tPk l))), none, some (.int (nI l.length)), some (.int x7)] [] I' L (zR1 q) := by
        intro l p x7 I' hW hp' hap hl9 hd8 hf'
        rw [hW] at eP
        have hp60 := hp'.2.2.2.1
        have hp40 : I' 0 40 = nI p := hp'.2.2.1
        refine b57_150 (pk_ne l.length 0 (fun z2 => b57_163 ?_) (fun z2 => ?_) rfl rfl (by omega) (by omega))
        · rw [if_neg (fun w => z2 (by rw [show l = [] from w]; rfl))] at eP
          refine c_need (c := 58) rfl (by decide) hp' (fun hn hp40 => ?_) (fun hn => ?_)
          · rw [hn] at eP
            exact p169 l (p + 1) _ _ (mPr_at hp' (by omega)) (by omega) eP hl9 hd8 (zFr_up hf' rfl)
          · rw [hn] at eP
            exact p169W p p _ _ _ _ (mPr_wr hp' hp60) eP (zFr_up hf' rfl)
        · rw [if_pos (List.length_eq_zero_iff.mp z2)] at eP
          have hp2 := mPr_wr hp' (e := p) hp60
          refine c_isWrong hp40 hp' (b57_163 (c_need1 hp2 ?_))
          exact p169W p p _ _ _ _ hp2 eP (zFr_up hf' rfl)
      have loop : ∀ (fl sn : Nat) (l : List Nat) (a' : Nat) (I' : zI), 41 ≤ fl + a' → a' ≤ 41 → tWi tx tn fl sn l a' = tWi tx tn 41 0 [] (a + 1) → sn < 512 → l.length = sPc sn → (∀ d, d ∈ l → d ≤ 8) → a < a' → mPr tx tn a' none I' → zFr (tFp (14 * f + k)) I I' → zQ G 57 (n + 3) post 73 [some (.ref 0), some (.int (nI k)), some (.int (nI c)), some (.int (nI (14 * f + k))), some (.long (lN (tPk l))), none, some (.int (nI l.length)), some (.int (nI sn))] [] I' L (zR1 q) := by
        intro fl
        induction fl with
        | zero =>
          intro sn l a' I' hfa ha' hW hsn hpc hd8 haa hp' hf'
          have hle := sPc_le sn
          have hnone : tH tx tn a' = none := by unfold tH; rw [if_neg (by omega)]
          refine b57_73 (c_here hp' ?_)
          show zC G (n + 3) 2 [.int (tHv tx tn a'), .int (nI 48), .int (nI 56)] I' L (zR1 q) _
          refine c_in ?_
          rw [tHv_in hp' (by decide) (by decide), hnone]
          exact And.intro (fun _ => p150 l a' _ I' hW.symm hp' haa (by omega) hd8 hf') (fun w => absurd rfl w)
        | succ fl ih =>
          intro sn l a' I' hfa ha' hW hsn hpc hd8 haa hp' hf'
          have hle := sPc_le sn
          rw [tWi] at hW
          have hp40 : I' 0 40 = nI a' := hp'.2.2.1
          refine b57_73 (c_here hp' ?_)
          show zC G (n + 3) 2 [.int (tHv tx tn a'), .int (nI 48), .int (nI 56)] I' L (zR1 q) _
          refine c_in ?_
          rw [tHv_in hp' (by decide) (by decide)]
          cases q2 : tH tx tn a' with
          | none =>
            rw [q2] at hW
            exact And.intro (fun _ => p150 l a' _ I' hW.symm hp' haa (by omega) hd8 hf') (fun w => absurd rfl w)
          | some b =>
            rw [q2] at hW
            dsimp only at hW ⊢
            obtain ⟨hb, hatn, ha40'⟩ := tH_lt hp' q2
            by_cases z2 : 48 ≤ b ∧ b ≤ 56
            · rw [decide_eq_true z2]
              have ev : tHv tx tn a' - 48 = nI (b - 48) := by
                unfold tHv
                rw [q2]
                dsimp only
                rw [zby8_lo b (by omega)]
                exact pk_sub (b := 48) (by omega)
              have e1 : nI sn >>> ((tHv tx tn a' - 48) &&& 31) &&& 1 = nI (sn / 2 ^ (b - 48) % 2) := by rw [ev, zshr (by omega) (by omega), pk_andN (by have := Nat.div_le_self sn (2 ^ (b - 48)); omega) 1 rfl]
              have hm2 : sn / 2 ^ (b - 48) % 2 < 2 := Nat.mod_lt _ (by decide)
              refine And.intro (fun w => absurd w (by decide)) (fun _ => c_here hp' ?_)
              refine pk_ne (sn / 2 ^ (b - 48) % 2) 0 (fun z3 => ?_) (fun z3 => ?_) e1 rfl (by omega) (by omega)
              · rw [if_neg (fun w => z3 w.2)] at hW
                exact p150 l a' _ I' hW.symm hp' haa (by omega) hd8 hf'
              · rw [if_pos ⟨z2, z3⟩] at hW
                obtain ⟨c1, c2, c3⟩ := sPc_add (b - 48) (by omega) sn hsn z3
                have hle2 := sPc_le (sn + 2 ^ (b - 48))
                have hlp := tPk_lt l hd8
                have e16 : 16 ^ l.length = 2 ^ (4 * l.length) := by rw [Nat.pow_mul]
                have hbig : 2 ^ (4 * l.length) ≤ 2 ^ 32 := Nat.pow_le_pow_right (by decide) (by omega)
                have hmul : (b - 48) * 2 ^ (4 * l.length) ≤ 8 * 2 ^ 32 := Nat.mul_le_mul (by omega) hbig
                have e2 : nI sn ||| ((1 : Int32) <<< ((tHv tx tn a' - 48) &&& 31)) = nI (sn + 2 ^ (b - 48)) := by rw [ev]; exact c3
                have e3 : lN (tPk l) ||| ((tHv tx tn a' - 48).toInt64 <<< (((4 : Int32) * nI l.length).toInt64 &&& 63)) = lN (tPk (l ++ [b - 48])) := by
                  rw [ev, zshl4 (b - 48) (by omega) l.length (by omega), g_or' (k := 4 * l.length) rfl (by rw [← e16]; exact hlp) (by omega), tPk_snoc, e16]
                refine c_here hp' (c_here hp' (And.intro rfl ?_))
                have qq := ih (sn + 2 ^ (b - 48)) (l ++ [b - 48]) (a' + 1) (zup I' 0 40 (nI (a' + 1))) (by omega) (by omega) hW c2 (by rw [snoc_len, c1, hpc]) (fun d hd => ?_) (by omega) (mPr_at hp' (by omega)) (zFr_up hf' rfl)
                · rw [snoc_len, ← nI_1, ← nI_1, ← e2, ← e3, ← hp40] at qq
                  exact qq
                · rcases List.mem_append.mp hd with w | w
                  · exact hd8 d w
                  · rw [List.mem_singleton.mp w]
                    omega
            · rw [decide_eq_false z2]
              rw [if_neg (fun w => z2 w.1)] at hW
              exact And.intro (fun _ => p150 l a' _ I' hW.symm hp' haa (by omega) hd8 hf') (fun w => absurd rfl w)
      have qq := loop 41 0 [] (a + 1) _ (by omega) (by omega) rfl (by decide) rfl (fun d hd => by cases hd) (by omega) hp1 hf1
      rw [← e40, ← k14] at qq
      exact qq
  refine zin0 rfl rfl rfl (b57_0 (c_here hp ?_))
  have yes : ∀ c : Nat, (c = 102 ∨ c = 109 ∨ c = 116 ∨ c = 114) → tHv tx tn a = nI c → tH tx tn a = some c → tLet tx tn a = some c → zQ G 57 (n + 3) post 38 [some (.ref 0), some (.int (nI k)), some (.int (tHv tx tn a)), none, none, none, none, none] [] I L (zR1 q) := by
    intro c hc hv hH hL
    rw [hv]
    exact p38 c hc hv hL (tH_lt hp hH).2.2
  show (tHv tx tn a = nI 102 → _) ∧ (¬ tHv tx tn a = nI 102 → _)
  refine And.intro (fun z => yes 102 (by omega) z (e102.mp z) (by unfold tLet; rw [if_pos (e102.mp z)])) (fun z => ?_)
  have y1 : tH tx tn a ≠ some 102 := fun w => z (e102.mpr w)
  show (tHv tx tn a = nI 109 → _) ∧ (¬ tHv tx tn a = nI 109 → _)
  refine And.intro (fun z => yes 109 (by omega) z (e109.mp z) (by unfold tLet; rw [if_neg y1, if_pos (e109.mp z)])) (fun z => ?_)
  have y2 : tH tx tn a ≠ some 109 := fun w => z (e109.mpr w)
  show (tHv tx tn a = nI 116 → _) ∧ (¬ tHv tx tn a = nI 116 → _)
  refine And.intro (fun z => yes 116 (by omega) z (e116.mp z) (by unfold tLet; rw [if_neg y1, if_neg y2, if_pos (e116.mp z)])) (fun z => ?_)
  have y3 : tH tx tn a ≠ some 116 := fun w => z (e116.mpr w)
  show (tHv tx tn a = nI 114 → _) ∧ (¬ tHv tx tn a = nI 114 → _)
  refine And.intro (fun z => yes 114 (by omega) z (e114.mp z) (by unfold tLet; rw [if_neg y1, if_neg y2, if_neg y3, if_pos (e114.mp z)])) (fun z => ?_)
  have y4 : tH tx tn a ≠ some 114 := fun w => z (e114.mpr w)
  refine c_isWrong h40 hp (h0 a ?_ a _ L (mPr_wr hp ha60) (zFr_up (zFr_0 _ _) rfl) (fun _ _ _ => rfl))
  unfold tPart tLet
  rw [if_neg y1, if_neg y2, if_neg y3, if_neg y4]
end
