-- ===== the reference: orders of foes =====
theorem zshr {a f : Nat} (ha : a < 2 ^ 31) (hf : f < 31) : nI a >>> (nI f &&& 31) = nI (a / 2 ^ f) := pk_shrN ha _ f ((by decide +kernel : ∀ f, f < 31 → ((nI f &&& 31).toBitVec.smod 32).toNat = f) f hf)
theorem zshl1 {f : Nat} (hf : f < 31) : (1 : Int32) <<< (nI f &&& 31) = nI (2 ^ f) := by
  have h := pk_shlN (n := 1) (nI f &&& 31) f ((by decide +kernel : ∀ f, f < 31 → ((nI f &&& 31).toBitVec.smod 32).toNat = f) f hf) (by
    have : 2 ^ f ≤ 2 ^ 30 := Nat.pow_le_pow_right (by decide) (by omega)
    omega)
  rw [Nat.one_mul] at h
  exact h
set_option maxRecDepth 100000 in
theorem zclr : ∀ f, f < 8 → ∀ a, a < 256 → a / 2 ^ f % 2 = 1 → nI a &&& (nI (2 ^ f) ^^^ (-1)) = nI (a - 2 ^ f) := by decide +kernel
def sBits (a : Nat) : Nat := sCB (fun k => decide (a / 2 ^ k % 2 = 1)) 8
set_option maxRecDepth 100000 in
theorem sBits_clr : ∀ f, f < 8 → ∀ a, a < 256 → a / 2 ^ f % 2 = 1 → sBits (a - 2 ^ f) + 1 = sBits a ∧ 2 ^ f ≤ a := by decide +kernel
set_option maxRecDepth 100000 in
theorem sBits_0 : ∀ a, a < 256 → (sBits a = 0 ↔ a = 0) := by decide +kernel
def sU (x y : Int32) : Int32 := (x.toUInt32 >>> (y.toUInt32 &&& Int32.toUInt32 31)).toInt32
def sBC1 (x : Int32) : Int32 := x - (sU x 1 &&& 1431655765)
def sBC2 (x : Int32) : Int32 := (x &&& 858993459) + (sU x 2 &&& 858993459)
def sBC3 (x : Int32) : Int32 := (x + sU x 4) &&& 252645135
def sBC4 (x : Int32) : Int32 := x + sU x 8
def sBC5 (x : Int32) : Int32 := x + sU x 16
/-- what bitCount answers -/
def sBC (x : Int32) : Int32 := sBC5 (sBC4 (sBC3 (sBC2 (sBC1 x)))) &&& 63
set_option maxRecDepth 100000 in
theorem sBC_eq : ∀ b, b < 256 → sBC (nI b) = nI (sBits b) := by decide +kernel
/-- so many games, by the foe F -/
def sGN (g : zg) (fr : Nat → Nat) (rl : zrl) (ru : Option Nat) (F : zfo) : Nat → sC → sC
  | 0, c => c
  | k + 1, c => sGN g fr rl ru F k (sGm g fr rl ru F c).2.1
def sTg (g : zg) (fr : Nat → Nat) (rl : zrl) (ru : Option Nat) (fo : Nat → zfo) (n : Nat) : List Nat → sC → sC
  | [], c => c
  | f :: fs, c => sTg g fr rl ru fo n fs (sGN g fr rl ru (fo f) n c)
/-- what an order is worth -/
def sTv (g : zg) (fr : Nat → Nat) (rl : zrl) (ru : Option Nat) (fo : Nat → zfo) (n te : Nat) (c : sC) (l : List Nat) : Nat := 2 * sOd g fr (sTg g fr rl ru fo n l c) (fo te) (sFirst g) 2 + sOd g fr (sTg g fr rl ru fo n l c) (fo te) (sFirst g) 1
abbrev zbs : Type := Option (Nat × List Nat)
def sUp (v : List Nat → Nat) (b : zbs) (l : List Nat) : zbs := match b with
  | none => some (v l, l)
  | some x => if v l ≤ x.1 then some x else some (v l, l)
def sPmL (h : Nat → List (List Nat)) : Nat → List (List Nat)
  | 0 => []
  | k + 1 => sPmL h k ++ h k
/-- all orders of the foes left, behind those told -/
def sPm (nf : Nat) : Nat → Nat → List Nat → List (List Nat)
  | 0, _, pre => [pre]
  | k + 1, left, pre => if left = 0 then [pre] else sPmL (fun f => if left / 2 ^ f % 2 = 1 then sPm nf k (left - 2 ^ f) (pre ++ [f]) else []) nf
theorem sGN_in {g : zg} {fr : Nat → Nat} {rl : zrl} {ru : Option Nat} {F : zfo} (hg : gOk g) : ∀ n c, cIn g c → cIn g (sGN g fr rl ru F n c) := by
  intro n
  induction n with
  | zero =>
    intro c h
    rw [sGN]
    exact h
  | succ n ih =>
    intro c h
    rw [sGN]
    exact ih _ (sGm_in hg h)
theorem sTg_in {g : zg} {fr : Nat → Nat} {rl : zrl} {ru : Option Nat} {fo : Nat → zfo} {n : Nat} (hg : gOk g) : ∀ l c, cIn g c → cIn g (sTg g fr rl ru fo n l c) := by
  intro l
  induction l with
  | nil =>
    intro c h
    rw [sTg]
    exact h
  | cons f fs ih =>
    intro c h
    rw [sTg]
    exact ih _ (sGN_in hg n c h)
section
variable {G : zG} {n : Nat} {I : zI} {L : zL} {q : zq} {post : zPo} {g : zg} {c : sC} {w : uW} {fr : Nat → Nat} {f nr nf : Nat} {F : zfo} {rl : zrl} {ru : Option Nat} {en : Nat → Int32} {fo : Nat → zfo}
theorem c_bitCount {x : Int32} {R : zR} (h : post (some (.int (sBC x))) I L R) : zC G (n + 1) 125 [.int x] I L R post := zin0 rfl rfl rfl (b125_0 h)
/-- the best order told -/
def mTb (b : zbs) (I : zI) (L : zL) : Prop := match b with
  | none => I 0 64 = 0
  | some x => I 0 64 = 1 ∧ L 0 63 = lN x.1 ∧ x.1 < 2 ^ 62 ∧ ∀ j y, x.2[j]? = some y → I 34 j = nI y
def mOr (l : List Nat) (I : zI) : Prop := ∀ j y, l[j]? = some y → I 33 j = nI y
def tTe (o k : Nat) : Bool := tP o k || Nat.beq o 26 || Nat.beq o 33 || Nat.beq o 34 || (Nat.beq o 0 && Nat.beq k 64)
theorem tP_tTe {I I' : zI} (h : zFr tP I I') : zFr tTe I I' := fun o k z => h o k (by
  unfold tTe at z
  simp only [Bool.or_eq_false_iff] at z
  exact z.1.1.1.1)
theorem tTe_tE2 {I I' : zI} (h : zFr tTe I I') : zFr tE2 I I' := fun o k z => h o k (by
  unfold tE2 tQ at z
  unfold tTe
  simp only [Bool.or_eq_false_iff] at z ⊢
  obtain ⟨⟨⟨⟨⟨⟨⟨⟨⟨⟨⟨⟨⟨y1, y2⟩, y3⟩, y4⟩, y5⟩, z2⟩, z3⟩, z4⟩, z5⟩, z6⟩, z7⟩, z8⟩, z9⟩, z10⟩ := z
  exact ⟨⟨⟨⟨y1, y4⟩, z7⟩, z8⟩, z10⟩)
/-- rows of longs that teaching leaves -/
def lTe (L L' : zL) : Prop := ∀ o k, o ≠ 25 → o ≠ 27 → o ≠ 28 → ¬ (o = 0 ∧ k = 63) → L' o k = L o k
theorem lTe_13 {L' : zL} (h : lTe L L') : L' 13 = L 13 := funext fun k => h 13 k (by decide) (by decide) (by decide) (by omega)
theorem lTe_tr {L' L'' : zL} (h : lTe L L') (h2 : lTe L' L'') : lTe L L'' := fun o k a1 a2 a3 a4 => (h2 o k a1 a2 a3 a4).trans (h o k a1 a2 a3 a4)
theorem mOr_P {l : List Nat} {I' : zI} (h : mOr l I) (hf : zFr tP I I') : mOr l I' := fun j y hy => (hf 33 j rfl).trans (h j y hy)
theorem mTb_P {b : zbs} {I' : zI} (h : mTb b I L) (hf : zFr tP I I') : mTb b I' L := by
  cases b with
  | none => exact (hf 0 64 rfl).trans h
  | some x => exact ⟨(hf 0 64 rfl).trans h.1, h.2.1, h.2.2.1, fun j y hy => (hf 34 j rfl).trans (h.2.2.2 j y hy)⟩
/-- an order told whole -/
theorem teach_leaf {N ng te k0 : Nat} {l : List Nat} {b : zbs} (hN : 74 ≤ N) (he : gE g fr nr rl ru nf fo I L) (hk : mK 3 c I) (hin : cIn g c) (hte : te < nf) (hl : l.length ≤ 3) (hlf : ∀ f, f ∈ l → f < nf) (ho : mOr l I) (hb : mTb b I L) (hng : ng ≤ 50) (h : ∀ (I' : zI) (L' : zL), mTb (sUp (sTv g fr rl ru fo ng te c) b l) I' L' → zFr tTe I I' → (∀ j, I' 33 j = I 33 j) → lTe L L' → post none I' L' (zR1 q)) : zC G N 115 [.ref 0, .int (nI 0), .int (nI l.length), .int (nI ng), .int (nI te)] I L (zR1 q) post := by
  obtain ⟨N, rfl⟩ : ∃ N', N = N' + 74 := ⟨N - 74, by omega⟩
  have hnf := he.2.2.2.1.1
  -- behind the games
  have ask : ∀ (I' : zI), mC (sTg g fr rl ru fo ng l c) I' → zFr tP I I' → zQ G 115 (N + 73) post 51 [some (.ref 0), some (.int (nI 0)), some (.int (nI l.length)), some (.int (nI ng)), some (.int (nI te)), none, none, none, none] [] I' L (zR1 q) := by
    intro I' hc' hf'
    have he' := gE_fr he (tTe_tE2 (tP_tTe hf')) rfl
    have hin' := sTg_in (fr := fr) (rl := rl) (ru := ru) (fo := fo) (n := ng) he.1.1 l c hin
    have hb' := mTb_P hb hf'
    have ho' := mOr_P ho hf'
    obtain ⟨w1, w2, w3, w4, w5, w6, w7, w8⟩ := gE_W he' hte hin' hc'
    have hfl := sR_lt he.1.1 (sR_first g)
    refine b115_51 (c_askOdds ⟨w1, w2, w3, w7, w4⟩ hin'.1 (by omega) (he.2.2.2.1.2.2 te hte).1 fun I1 L1 y1 y2 y3 => ?_)
    have e2 : nI (3 * sFirst g) + 2 = nI (3 * sFirst g + 2) := by rw [show (2 : Int32) = nI 2 from rfl, nI_add]
    have e1 : nI (3 * sFirst g) + 1 = nI (3 * sFirst g + 1) := nI_1 _
    have hv2 := sOd_le g fr (sTg g fr rl ru fo ng l c) (fo te) (sFirst g) 2
    have hv1 := sOd_le g fr (sTg g fr rl ru fo ng l c) (fo te) (sFirst g) 1
    have ev : (2 : Int64) * L1 25 (nI (3 * sFirst g) + 2).toNatClampNeg + L1 25 (nI (3 * sFirst g) + 1).toNatClampNeg = lN (sTv g fr rl ru fo ng te c l) := by
      rw [e2, e1, nI_clamp (by omega), nI_clamp (by omega), y1 2 (by omega), y1 1 (by omega), show (2 : Int64) = lN 2 from rfl, lN_mul, lN_add]
      rfl
    have hvl : sTv g fr rl ru fo ng te c l ≤ 3000000000 := by unfold sTv; omega
    have hlT : lTe L L1 := fun o k a1 a2 a3 _ => by rw [y3 o a1 a2 a3]
    have hfT : zFr tTe I I1 := zFr_tr (tP_tTe hf') fun o x z => by rw [y2 o (fun a => by subst a; cases z)]
    have e33 : ∀ j, I1 33 j = I 33 j := fun j => by rw [y2 33 (by decide)]; exact hf' 33 j rfl
    refine And.intro (by rw [e2]; exact vp_in_nI (by omega) (by decide)) (And.intro (by rw [e1]; exact vp_in_nI (by omega) (by decide)) ?_)
    -- taken as the best
    have take : sUp (sTv g fr rl ru fo ng te c) b l = some (sTv g fr rl ru fo ng te c l, l) → zQ G 115 (N + 73) post 102 [some (.ref 0), some (.int (nI 0)), some (.int (nI l.length)), some (.int (nI ng)), some (.int (nI te)), some (.int (nI (3 * sFirst g))), some (.long (lN (sTv g fr rl ru fo ng te c l))), none, none] [] I1 L1 (zR1 q) := by
      intro hup
      have key : ∀ j i : Nat, i + j = l.length → ∀ J : zI, (∀ x, x < i → J 34 x = I 33 x) → (∀ o x, o ≠ 34 → ¬ (o = 0 ∧ x = 64) → J o x = I1 o x) → J 0 64 = 1 → zQ G 115 (N + 73) post 116 [some (.ref 0), some (.int (nI 0)), some (.int (nI l.length)), some (.int (nI ng)), some (.int (nI te)), none, none, none, some (.int (nI i))] [] J (zup L1 0 63 (lN (sTv g fr rl ru fo ng te c l))) (zR1 q) := by
        intro j
        induction j with
        | zero =>
          intro i hi J hJ hJo h64
          refine b115_116 (pk_le l.length i (fun _ => b115_142 ?_) (fun z => absurd z (by omega)) rfl rfl (by omega) (by omega))
          refine h J _ ?_ (fun o x z => ?_) (fun j => by rw [hJo 33 j (by decide) (by omega)]; exact e33 j) (fun o x a1 a2 a3 a4 => ?_)
          · rw [hup]
            refine ⟨h64, zup_self, by show sTv g fr rl ru fo ng te c l < 2 ^ 62; omega, fun j y hy => ?_⟩
            have hjl : j < l.length := (List.getElem?_eq_some_iff.mp hy).1
            rw [hJ j (by omega)]
            exact ho j y hy
          · rw [hJo o x (fun a => by subst a; cases z) (fun ⟨a, b⟩ => by subst a b; cases z)]
            exact hfT o x z
          · unfold zup
            by_cases d : o = 0
            · rw [if_pos d, if_neg (fun a => a4 ⟨d, a⟩)]
              exact hlT o x a1 a2 a3 a4
            · rw [if_neg d]
              exact hlT o x a1 a2 a3 a4
        | succ j ih =>
          intro i hi J hJ hJo h64
          have ec : (nI i).toNatClampNeg = i := nI_clamp (by omega)
          have v : vp_in (nI i) 3 := vp_in_nI (by omega) (by decide)
          refine b115_116 (pk_le l.length i (fun z => absurd z (by omega)) (fun _ => And.intro v (And.intro v ?_)) rfl rfl (by omega) (by omega))
          have q2 := ih (i + 1) (by omega) (zup J 34 (nI i).toNatClampNeg (J 33 (nI i).toNatClampNeg)) (fun x hx => ?_) (fun o x a1 a2 => by rw [zup_ne a1]; exact hJo o x a1 a2) (by rw [zup_ne (by decide)]; exact h64)
          · rw [← nI_1] at q2
            exact q2
          · rw [ec, zup_eq]
            by_cases d : x = i
            · rw [if_pos d, d, hJo 33 i (by decide) (by omega)]
              exact e33 i
            · rw [if_neg d]
              exact hJ x (by omega)
      have q2 := key l.length 0 (by omega) (zup I1 0 64 1) (fun _ hx => absurd hx (by omega)) (fun o x a1 a2 => by
        unfold zup
        by_cases d : o = 0
        · rw [if_pos d, if_neg (fun a => a2 ⟨d, a⟩)]
        · rw [if_neg d]) zup_self
      exact b115_102 (And.intro ⟨rfl, rfl⟩ (zP_lv (by exact ⟨rfl, rfl, rfl, rfl, rfl, rfl, trivial⟩) q2))
    have hb1 : mTb b I1 L1 := by
      cases b with
      | none =>
        show I1 0 64 = 0
        rw [y2 0 (by decide)]
        exact hb'
      | some x =>
        refine ⟨by rw [y2 0 (by decide)]; exact hb'.1, by rw [y3 0 (by decide) (by decide) (by decide)]; exact hb'.2.1, hb'.2.2.1, fun j y hy => by rw [y2 34 (by decide)]; exact hb'.2.2.2 j y hy⟩
    show (I1 0 64 = 0 → zP G 115 (N + 73) zNN zNN post 102 _ [] zNN I1 L1 (zR1 q)) ∧ (¬ I1 0 64 = 0 → _)
    rw [ev]
    cases b with
    | none => exact And.intro (fun _ => take rfl) (fun z => absurd hb1 z)
    | some x =>
      refine And.intro (fun z => absurd (hb1.1.symm.trans z) (by decide)) (fun _ => ?_)
      have e63 : L1 0 63 = lN x.1 := hb1.2.1
      have hxl := hb1.2.2.1
      show (0 < lg_cmp (lN (sTv g fr rl ru fo ng te c l)) (L1 0 63) → _) ∧ (¬ 0 < lg_cmp (lN (sTv g fr rl ru fo ng te c l)) (L1 0 63) → _)
      rw [e63]
      by_cases z : sTv g fr rl ru fo ng te c l ≤ x.1
      · have hup : sUp (sTv g fr rl ru fo ng te c) (some x) l = some x := if_pos z
        refine And.intro (fun z2 => ?_) (fun _ => ?_)
        · have := (pk_lLT (by omega) (by omega)).mp ((lg_cmp_gt _ _).mp z2)
          omega
        · rw [hup] at h
          exact h I1 L1 hb1 hfT e33 hlT
      · refine And.intro (fun _ => take (if_neg z)) (fun z2 => ?_)
        exact absurd ((lg_cmp_gt _ _).mpr ((pk_lLT (by omega) (by omega)).mpr (by omega))) z2
  -- the games
  have orders : ∀ (us vs : List Nat) (c' : sC) (I' : zI), vs ++ us = l → sTg g fr rl ru fo ng us c' = sTg g fr rl ru fo ng l c → cIn g c' → mC c' I' → zFr tP I I' → zQ G 115 (N + 73) post 12 [some (.ref 0), some (.int (nI 0)), some (.int (nI l.length)), some (.int (nI ng)), some (.int (nI te)), some (.int (nI vs.length)), none, none, none] [] I' L (zR1 q) := by
    intro us
    induction us with
    | nil =>
      intro vs c' I' hv hs hin' hc' hf'
      rw [List.append_nil] at hv
      subst hv
      rw [← hs] at ask
      exact b115_12 (pk_le vs.length vs.length (fun _ => zP_lv (by exact ⟨rfl, rfl, rfl, rfl, rfl, trivial⟩) (ask I' hc' hf')) (fun z => absurd z (by omega)) rfl rfl (by omega) (by omega))
    | cons u us ih =>
      intro vs c' I' hv hs hin' hc' hf'
      have hlen : vs.length + (us.length + 1) = l.length := by rw [← hv, List.length_append]; rfl
      have hu : u < nf := hlf u (by rw [← hv]; exact List.mem_append_right _ List.mem_cons_self)
      have hou : l[vs.length]? = some u := by rw [← hv, List.getElem?_append_right (Nat.le_refl _), Nat.sub_self]; rfl
      have games : ∀ j i : Nat, i + j = ng → ∀ (c2 : sC) (I2 : zI), sGN g fr rl ru (fo u) j c2 = sGN g fr rl ru (fo u) ng c' → cIn g c2 → mC c2 I2 → zFr tP I I2 → zQ G 115 (N + 73) post 21 [some (.ref 0), some (.int (nI 0)), some (.int (nI l.length)), some (.int (nI ng)), some (.int (nI te)), some (.int (nI vs.length)), some (.int (nI i)), none, none] [] I2 L (zR1 q) := by
        intro j
        induction j with
        | zero =>
          intro i hi c2 I2 hg2 hin2 hc2 hf2
          have e2 : c2 = sGN g fr rl ru (fo u) ng c' := hg2
          have q2 := ih (vs ++ [u]) c2 I2 (by rw [List.append_assoc]; exact hv) (by rw [e2]; exact hs) hin2 hc2 hf2
          rw [snoc_len, ← nI_1] at q2
          exact b115_21 (pk_le ng i (fun _ => b115_45 (zP_lv (by exact ⟨rfl, rfl, rfl, rfl, rfl, rfl, trivial⟩) q2)) (fun z => absurd z (by omega)) rfl rfl (by omega) (by omega))
        | succ j ihj =>
          intro i hi c2 I2 hg2 hin2 hc2 hf2
          have he2 := gE_fr he (tTe_tE2 (tP_tTe hf2)) rfl
          obtain ⟨w1, w2, w3, w4, w5, w6, w7, w8⟩ := gE_W he2 hu hin2 hc2
          have eo : I2 33 (nI vs.length).toNatClampNeg = nI u := by rw [nI_clamp (by omega), hf2 33 _ rfl]; exact ho _ u hou
          refine b115_21 (pk_le ng i (fun z => absurd z (by omega)) (fun _ => And.intro (vp_in_nI (by omega) (by decide)) ?_) rfl rfl (by omega) (by omega))
          show zC G (N + 73) 86 [.ref 0, .int (I2 33 (nI vs.length).toNatClampNeg)] I2 L (zR1 q) _
          rw [eo]
          refine c_playGame w1 w2 w3 (by omega) (he.2.2.2.1.2.2 u hu).1 w4 w5 w6 w7 w8 fun I3 hc3 _ hf3 => And.intro rfl ?_
          have q2 := ihj (i + 1) (by omega) _ I3 hg2 (sGm_in he.1.1 hin2) hc3 (zFr_tr hf2 hf3)
          rw [← nI_1] at q2
          exact q2
      refine b115_12 (pk_le l.length vs.length (fun z => absurd z (by omega)) (fun _ => ?_) rfl rfl (by omega) (by omega))
      exact games ng 0 (by omega) c' I' rfl hin' hc' hf'
  refine zin0 rfl rfl rfl (b115_0 (And.intro (fun z => absurd rfl z) (fun _ => ?_)))
  refine c_bringBack (c := c) (i := 3) (by omega) hk fun I1 hc1 hf1 => ?_
  exact orders l [] c I1 rfl rfl hin hc1 (tC_tP hf1)
theorem mOr_snoc {l : List Nat} {f : Nat} {I' : zI} (h : mOr l I) (hl : I' 33 l.length = nI f) (ho : ∀ j, j < l.length → I' 33 j = I 33 j) : mOr (l ++ [f]) I' := fun j y hy => by
  rcases snoc_get hy with ⟨a1, a2⟩ | ⟨a1, a2⟩
  · rw [a1, a2]; exact hl
  · rw [ho j a1]; exact h j y a2
theorem c_teachOrders {ng te : Nat} (hin : cIn g c) (hte : te < nf) (hng : ng ≤ 50) : ∀ (k N left : Nat) (pre : List Nat) (b : zbs) (I : zI) (L : zL) (post : zPo), 74 + k ≤ N → gE g fr nr rl ru nf fo I L → mK 3 c I → left < 2 ^ nf → sBits left ≤ k → pre.length + sBits left ≤ 3 → (∀ f, f ∈ pre → f < nf) → mOr pre I → mTb b I L → (∀ (I' : zI) (L' : zL), mTb ((sPm nf k left pre).foldl (sUp (sTv g fr rl ru fo ng te c)) b) I' L' → zFr tTe I I' → (∀ j, j < pre.length → I' 33 j = I 33 j) → lTe L L' → post none I' L' (zR1 q)) → zC G N 115 [.ref 0, .int (nI left), .int (nI pre.length), .int (nI ng), .int (nI te)] I L (zR1 q) post := by
  intro k
  induction k with
  | zero =>
    intro N left pre b I L post hN he hk hlt hbt hp3 hpf ho hb h
    have hnf := he.2.2.2.1.1
    have h256 : left < 256 := Nat.lt_of_lt_of_le hlt (Nat.pow_le_pow_right (n := 2) (by decide) hnf)
    have e0 : left = 0 := (sBits_0 left h256).mp (by omega)
    subst e0
    exact teach_leaf (k0 := 0) hN he hk hin hte (by omega) hpf ho hb hng fun I' L' a1 a2 a3 a4 => h I' L' a1 a2 (fun j _ => a3 j) a4
  | succ k ih =>
    intro N left pre b I L post hN he hk hlt hbt hp3 hpf ho hb h
    have hnf := he.2.2.2.1.1
    have h256 : left < 256 := Nat.lt_of_lt_of_le hlt (Nat.pow_le_pow_right (n := 2) (by decide) hnf)
    rw [sPm] at h
    by_cases z : left = 0
    · subst z
      rw [if_pos rfl] at h
      exact teach_leaf (k0 := 0) (by omega) he hk hin hte (by omega) hpf ho hb hng fun I' L' a1 a2 a3 a4 => h I' L' a1 a2 (fun j _ => a3 j) a4
    · rw [if_neg z] at h
      obtain ⟨N, rfl⟩ : ∃ N', N = N' + 1 := ⟨N - 1, by omega⟩
      have hb0 : sBits left ≠ 0 := fun w => z ((sBits_0 left h256).mp w)
      have key : ∀ j i : Nat, i + j = nf → ∀ (I' : zI) (L' : zL), gE g fr nr rl ru nf fo I' L' → mK 3 c I' → mOr pre I' → mTb ((sPmL (fun f => if left / 2 ^ f % 2 = 1 then sPm nf k (left - 2 ^ f) (pre ++ [f]) else []) i).foldl (sUp (sTv g fr rl ru fo ng te c)) b) I' L' → zFr tTe I I' → (∀ j, j < pre.length → I' 33 j = I 33 j) → lTe L L' → zQ G 115 N post 146 [some (.ref 0), some (.int (nI left)), some (.int (nI pre.length)), some (.int (nI ng)), some (.int (nI te)), some (.int (nI i)), none, none, none] [] I' L' (zR1 q) := by
        intro j
        induction j with
        | zero =>
          intro i hi I' L' he' hk' ho' hb' hf' h33 hl'
          have e : i = nf := by omega
          subst e
          exact b115_146 (pk_le i i (fun _ => b115_199 (h I' L' hb' hf' h33 hl')) (fun z => absurd z (by omega)) he'.2.2.2.1.2.1 rfl (by omega) (by omega))
        | succ j ihj =>
          intro i hi I' L' he' hk' ho' hb' hf' h33 hl'
          have e1 : nI left >>> (nI i &&& 31) &&& 1 = nI (left / 2 ^ i % 2) := by rw [zshr (by omega) (by omega), pk_andN (by have := Nat.div_le_self left (2 ^ i); omega) 1 rfl]
          refine b115_146 (pk_le nf i (fun z => absurd z (by omega)) (fun _ => ?_) he'.2.2.2.1.2.1 rfl (by omega) (by omega))
          have hm2 : left / 2 ^ i % 2 < 2 := Nat.mod_lt _ (by decide)
          refine pk_ne (left / 2 ^ i % 2) 0 (fun z2 => b115_167 ?_) (fun z2 => b115_193 ?_) e1 rfl (by omega) (by omega)
          · have h1 : left / 2 ^ i % 2 = 1 := by omega
            obtain ⟨s1, s2⟩ := sBits_clr i (by omega) left h256 h1
            have ec : (nI pre.length).toNatClampNeg = pre.length := nI_clamp (by omega)
            refine And.intro (vp_in_nI (by omega) (by decide)) ?_
            have e2 : nI left &&& ((1 : Int32) <<< (nI i &&& 31) ^^^ (-1)) = nI (left - 2 ^ i) := by rw [zshl1 (by omega)]; exact zclr i (by omega) left h256 h1
            have e3 : nI pre.length + 1 = nI (pre ++ [i]).length := by rw [nI_1, snoc_len]
            show zC G N 115 [.ref 0, .int (nI left &&& ((1 : Int32) <<< (nI i &&& 31) ^^^ (-1))), .int (nI pre.length + 1), .int (nI ng), .int (nI te)] (zup I' 33 (nI pre.length).toNatClampNeg (nI i)) L' (zR1 q) _
            rw [e2, e3, ec]
            have hfu : zFr tTe I' (zup I' 33 pre.length (nI i)) := zFr_up (zFr_0 _ _) rfl
            refine ih N (left - 2 ^ i) (pre ++ [i]) ((sPmL (fun f => if left / 2 ^ f % 2 = 1 then sPm nf k (left - 2 ^ f) (pre ++ [f]) else []) i).foldl (sUp (sTv g fr rl ru fo ng te c)) b) (zup I' 33 pre.length (nI i)) L' _ (by omega) (gE_fr he' (tTe_tE2 hfu) rfl) (mK_of hk' (zup_ne (by decide)) (zup_ne (by decide)) (zup_ne (by decide))) (Nat.lt_of_le_of_lt (Nat.sub_le _ _) hlt) (by omega) (by rw [snoc_len]; omega) (fun f hf => ?_) (mOr_snoc ho' zup_self (fun j hj => zup_k (by omega))) ?_ fun I2 L2 hb2 hf2 h332 hl2 => b115_193 ?_
            · rcases List.mem_append.mp hf with a | a
              · exact hpf f a
              · rw [List.mem_singleton.mp a]
                omega
            · revert hb'
              generalize (sPmL (fun f => if left / 2 ^ f % 2 = 1 then sPm nf k (left - 2 ^ f) (pre ++ [f]) else []) i).foldl (sUp (sTv g fr rl ru fo ng te c)) b = b'
              intro hb'
              cases b' with
              | none => exact hb'
              | some x => exact ⟨hb'.1, hb'.2.1, hb'.2.2.1, fun j y hy => by rw [zup_ne (by decide)]; exact hb'.2.2.2 j y hy⟩
            · have h33' : ∀ j, j < pre.length → I2 33 j = I' 33 j := fun j hj => by rw [h332 j (by rw [snoc_len]; omega), zup_k (by omega)]
              have hf12 := zFr_tr hfu hf2
              have q2 := ihj (i + 1) (by omega) I2 L2 (gE_fr he' (tTe_tE2 hf12) (lTe_13 hl2)) (mK_of hk' ?_ ?_ ?_) (fun j y hy => by rw [h33' j (List.getElem?_eq_some_iff.mp hy).1]; exact ho' j y hy) ?_ (zFr_tr hf' hf12) (fun j hj => (h33' j hj).trans (h33 j hj)) (lTe_tr hl' hl2)
              · rw [← nI_1] at q2
                exact q2
              · exact zFr_row hf12 fun _ => rfl
              · exact zFr_row hf12 fun _ => rfl
              · exact zFr_row hf12 fun _ => rfl
              · rw [sPmL, List.foldl_append, if_pos h1]
                exact hb2
          · have q2 := ihj (i + 1) (by omega) I' L' he' hk' ho' (by rw [sPmL, List.foldl_append, if_neg (by omega)]; exact hb') hf' h33 hl'
            rw [← nI_1] at q2
            exact q2
      refine zin0 rfl rfl rfl (b115_0 ?_)
      refine pk_ne left 0 (fun _ => b115_143 ?_) (fun w => absurd w z) rfl rfl (by omega) (by omega)
      exact key nf 0 (by omega) I L he hk ho hb (zFr_0 _ _) (fun _ _ => rfl) (fun _ _ _ _ _ _ => rfl)
/-- the numbers that a call of teach keeps to -/
def xTeach (nf : Nat) (x y z : Int32) (b ng te : Nat) : Prop := x = nI b ∧ y = nI ng ∧ z = nI te ∧ 1 ≤ b ∧ b < 2 ^ nf ∧ sBits b ≤ 3 ∧ ng ≤ 50 ∧ te < nf
theorem sPm_len (nf : Nat) : ∀ k left pre, left < 256 → sBits left ≤ k → ∀ l, l ∈ sPm nf k left pre → l.length = pre.length + sBits left ∧ ((∀ f, f ∈ pre → f < nf) → ∀ f, f ∈ l → f < nf) := by
  intro k
  induction k with
  | zero =>
    intro left pre hl hb l hm
    rw [sPm] at hm
    rw [List.mem_singleton.mp hm]
    exact ⟨by omega, fun h => h⟩
  | succ k ih =>
    intro left pre hl hb l hm
    rw [sPm] at hm
    split at hm
    · next z =>
      rw [List.mem_singleton.mp hm, z]
      exact ⟨by have := (sBits_0 0 (by omega)).mpr rfl; omega, fun h => h⟩
    · have key : ∀ i, i ≤ nf → l ∈ sPmL (fun f => if left / 2 ^ f % 2 = 1 then sPm nf k (left - 2 ^ f) (pre ++ [f]) else []) i → l.length = pre.length + sBits left ∧ ((∀ f, f ∈ pre → f < nf) → ∀ f, f ∈ l → f < nf) := by
        intro i
        induction i with
        | zero => intro _ h; cases h
        | succ i ihi =>
          intro hi h
          rw [sPmL] at h
          rcases List.mem_append.mp h with a | a
          · exact ihi (by omega) a
          · split at a
            · next z2 =>
              have h8 : i < 8 := by
                by_cases w : i < 8
                · exact w
                · exfalso
                  have : 2 ^ 8 ≤ 2 ^ i := Nat.pow_le_pow_right (by decide) (by omega)
                  rw [Nat.div_eq_of_lt (by omega)] at z2
                  omega
              obtain ⟨s1, s2⟩ := sBits_clr i h8 left hl z2
              have q2 := ih (left - 2 ^ i) (pre ++ [i]) (Nat.lt_of_le_of_lt (Nat.sub_le _ _) hl) (by omega) l a
              rw [snoc_len] at q2
              refine ⟨by omega, fun hp => q2.2 fun f hf => ?_⟩
              rcases List.mem_append.mp hf with w | w
              · exact hp f w
              · rw [List.mem_singleton.mp w]
                omega
            · cases a
      exact key nf (Nat.le_refl _) hm
theorem sUp_mem {v : List Nat → Nat} : ∀ (ls : List (List Nat)) (b : zbs), (∀ x, b = some x → v x.2 = x.1) → ∀ x, ls.foldl (sUp v) b = some x → (x.2 ∈ ls ∨ b = some x) ∧ v x.2 = x.1 := by
  intro ls
  induction ls with
  | nil => intro b hb x hx; exact ⟨Or.inr hx, hb x hx⟩
  | cons l ls ih =>
    intro b hb x hx
    have hx : ls.foldl (sUp v) (sUp v b l) = some x := hx
    have hb2 : ∀ x, sUp v b l = some x → v x.2 = x.1 := by
      intro x hx
      cases b with
      | none =>
        have hx : some (v l, l) = some x := hx
        injection hx with hx
        rw [← hx]
      | some y =>
        have hx : (if v l ≤ y.1 then some y else some (v l, l)) = some x := hx
        split at hx
        · injection hx with hx
          rw [← hx]
          exact hb y rfl
        · injection hx with hx
          rw [← hx]
    obtain ⟨a, b2⟩ := ih _ hb2 x hx
    refine ⟨?_, b2⟩
    rcases a with a | a
    · exact Or.inl (List.mem_cons_of_mem _ a)
    · cases b with
      | none =>
        have a : some (v l, l) = some x := a
        injection a with a
        rw [← a]
        exact Or.inl List.mem_cons_self
      | some y =>
        have a : (if v l ≤ y.1 then some y else some (v l, l)) = some x := a
        split at a
        · exact Or.inr a
        · injection a with a
          rw [← a]
          exact Or.inl List.mem_cons_self
/-- the best of all orders -/
def sTB (g : zg) (fr : Nat → Nat) (rl : zrl) (ru : Option Nat) (nf : Nat) (fo : Nat → zfo) (b ng te : Nat) (c : sC) : zbs := (sPm nf 3 b []).foldl (sUp (sTv g fr rl ru fo ng te c)) none
theorem sPm_ne (nf : Nat) : ∀ k left pre, left < 2 ^ nf → nf ≤ 8 → sBits left ≤ k → sPm nf k left pre ≠ [] := by
  intro k
  induction k with
  | zero => intro left pre _ _ _ h; rw [sPm] at h; cases h
  | succ k ih =>
    intro left pre hl h8 hb h
    have h256 : left < 256 := Nat.lt_of_lt_of_le hl (Nat.pow_le_pow_right (n := 2) (by decide) h8)
    rw [sPm] at h
    split at h
    · cases h
    · next z =>
      have ex : ∃ f, f < nf ∧ left / 2 ^ f % 2 = 1 := by
        refine Classical.byContradiction fun hn => z ?_
        have key : ∀ i, i ≤ nf → left % 2 ^ i = 0 := by
          intro i
          induction i with
          | zero => intro _; rw [Nat.pow_zero, Nat.mod_one]
          | succ i ihi =>
            intro hi
            have a := ihi (by omega)
            have b : left / 2 ^ i % 2 ≠ 1 := fun w => hn ⟨i, by omega, w⟩
            rw [Nat.pow_succ, Nat.mod_mul, a]
            have : left / 2 ^ i % 2 = 0 := by omega
            rw [this, Nat.mul_zero]
        have := key nf (Nat.le_refl _)
        rw [Nat.mod_eq_of_lt hl] at this
        exact this
      obtain ⟨f, hf, h1⟩ := ex
      have key : ∀ i, f < i → sPmL (fun f => if left / 2 ^ f % 2 = 1 then sPm nf k (left - 2 ^ f) (pre ++ [f]) else []) i ≠ [] := by
        intro i
        induction i with
        | zero => intro w; omega
        | succ i ihi =>
          intro w hh
          rw [sPmL] at hh
          obtain ⟨h2, h3⟩ := List.append_eq_nil_iff.mp hh
          by_cases c : f = i
          · subst c
            rw [if_pos h1] at h3
            obtain ⟨s1, s2⟩ := sBits_clr f (by omega) left h256 h1
            exact ih _ _ (Nat.lt_of_le_of_lt (Nat.sub_le _ _) hl) h8 (by omega) h3
          · exact ihi (by omega) h2
      exact key nf hf h
theorem sTB_some {b ng te : Nat} (hb : b < 2 ^ nf) (h8 : nf ≤ 8) (h3 : sBits b ≤ 3) : ∃ x, sTB g fr rl ru nf fo b ng te c = some x ∧ x.2.length = sBits b ∧ x.1 < 2 ^ 62 ∧ (∀ f, f ∈ x.2 → f < nf) := by
  have h256 : b < 256 := Nat.lt_of_lt_of_le hb (Nat.pow_le_pow_right (n := 2) (by decide) h8)
  have hne := sPm_ne nf 3 b [] hb h8 h3
  have hup : ∀ (ls : List (List Nat)) (bb : zbs), (ls ≠ [] ∨ bb ≠ none) → ls.foldl (sUp (sTv g fr rl ru fo ng te c)) bb ≠ none := by
    intro ls
    induction ls with
    | nil => intro bb h; rcases h with h | h; exact absurd rfl h; exact h
    | cons l ls ih =>
      intro bb _
      refine ih _ (Or.inr ?_)
      cases bb with
      | none => exact fun w => by cases w
      | some y =>
        show (if _ ≤ y.1 then some y else some (sTv g fr rl ru fo ng te c l, l)) ≠ none
        split
        · exact fun w => by cases w
        · exact fun w => by cases w
  have hs := hup (sPm nf 3 b []) none (Or.inl hne)
  cases q2 : sTB g fr rl ru nf fo b ng te c with
  | none => exact absurd q2 hs
  | some x =>
    obtain ⟨a1, a2⟩ := sUp_mem (sPm nf 3 b []) none (fun _ h => by cases h) x q2
    have hv : sTv g fr rl ru fo ng te c x.2 ≤ 3000000000 := by
      have v2 := sOd_le g fr (sTg g fr rl ru fo ng x.2 c) (fo te) (sFirst g) 2
      have v1 := sOd_le g fr (sTg g fr rl ru fo ng x.2 c) (fo te) (sFirst g) 1
      unfold sTv
      omega
    rcases a1 with a1 | a1
    · obtain ⟨l1, l2⟩ := sPm_len nf 3 b [] h256 h3 x.2 a1
      exact ⟨x, rfl, by rw [l1]; exact Nat.zero_add _, by omega, l2 fun f hf => by cases hf⟩
    · cases a1
/-- rows that teaching leaves as they were, the told ones aside -/
def tTc (o k : Nat) : Bool := tTe o k || tK o k || tT o k
theorem c_teach {x y z : Int32} (he : gE g fr nr rl ru nf fo I L) (hin : cIn g c) (hc : mC c I) (h1 : ∀ b ng te, xTeach nf x y z b ng te → ∀ (v : Nat) (l : List Nat), sTB g fr rl ru nf fo b ng te c = some (v, l) → l.length = sBits b → ∀ (I' : zI) (L' : zL), gE g fr nr rl ru nf fo I' L' → mC c I' → (∀ j c', j < 3 → mK j c' I → mK j c' I') → mRow (tellL l ++ [lN v]) I' L' → I' 0 34 = 0 → zFr tTc I I' → post (some (.int (nI (sBits b)))) I' L' (zR1 q)) (h0 : (∀ b ng te, ¬ xTeach nf x y z b ng te) → post (some (.int (-1))) (zup I 0 34 0) L (zR1 q)) : zC G (n + 79) 116 [.ref 0, .int x, .int y, .int z] I L (zR1 q) post := by
  have h8 := he.2.2.2.1.1
  have h23 : I 0 23 = nI nf := he.2.2.2.1.2.1
  have hp8 : 2 ^ nf ≤ 256 := Nat.pow_le_pow_right (n := 2) (by decide) h8
  have hp1 : 1 ≤ 2 ^ nf := Nat.pow_pos (by decide)
  have e1 : (1 : Int32) <<< (zup I 0 34 0 0 23 &&& 31) - 1 = nI (2 ^ nf - 1) := by
    rw [show zup I 0 34 0 0 23 = I 0 23 from rfl, h23, zshl1 (by omega)]
    exact pk_sub (b := 1) hp1
  have zero : (∀ b ng te, ¬ xTeach nf x y z b ng te) → zQ G 116 (n + 78) post 47 [some (.ref 0), some (.int x), some (.int y), some (.int z), none, none] [] (zup I 0 34 0) L (zR1 q) := fun w => b116_47 (h0 w)
  refine zin0 rfl rfl rfl (b116_0 ?_)
  show zC G (n + 78) 2 [.int x, .int 1, .int ((1 : Int32) <<< (zup I 0 34 0 0 23 &&& 31) - 1)] (zup I 0 34 0) L (zR1 q) _
  rw [e1]
  refine c_in1N (m := 2 ^ nf - 1) rfl (by omega) (fun b hb hb1 hb2 => And.intro (fun w => absurd w (by decide)) (fun _ => ?_)) (fun hb => And.intro (fun _ => zero fun b ng te w => ?_) (fun w => absurd rfl w))
  · subst hb
    have hb256 : b < 256 := by omega
    have hbl : sBits b ≤ 8 := sCB_le _ 8
    have ebc := sBC_eq b hb256
    refine c_bitCount ?_
    rw [ebc]
    refine pk_lt 3 (sBits b) (fun w => zero fun b' ng te w2 => ?_) (fun w => ?_) rfl rfl (by omega) (by omega)
    · have e := nI_inj (by omega) (by have := w2.2.2.2.2.1; omega) w2.1
      have := w2.2.2.2.2.2.1
      subst e
      omega
    · refine c_in0N (m := 50) rfl (by omega) (fun ng hng hng2 => And.intro (fun w => absurd w (by decide)) (fun _ => ?_)) (fun ho => And.intro (fun _ => zero fun b' ng te w2 => absurd ho (xOut_no (k := ng) (by have := w2.2.2.2.2.2.2.1; omega) (by omega) w2.2.1)) (fun w => absurd rfl w))
      subst hng
      rcases pk_ix z (n := nf) (by omega) with cz | cz | ⟨te, hte, rfl⟩
      · refine c_isFoe0 h8 h23 (Or.inl cz) (And.intro (fun w => absurd rfl w) (fun _ => zero fun b' ng' te w2 => ?_))
        exact xOut_no (n := nf) w2.2.2.2.2.2.2.2 (by omega) w2.2.2.1 (Or.inl cz)
      · refine c_isFoe0 h8 h23 (Or.inr cz) (And.intro (fun w => absurd rfl w) (fun _ => zero fun b' ng' te w2 => ?_))
        exact xOut_no (n := nf) w2.2.2.2.2.2.2.2 (by omega) w2.2.2.1 (Or.inr cz)
      · refine c_isFoe1 hte h8 h23 (And.intro (fun _ => b116_49 ?_) (fun w => absurd w (by decide)))
        obtain ⟨⟨v, l⟩, hB, hBl, hBv, hBf⟩ := sTB_some (g := g) (fr := fr) (rl := rl) (ru := ru) (fo := fo) (c := c) (ng := ng) (te := te) (show b < 2 ^ nf by omega) h8 w
        have qq := h1 b ng te ⟨rfl, rfl, rfl, hb1, by omega, w, hng2, hte⟩ v l hB hBl
        dsimp only at hBl hBv hBf
        refine c_keepIn (i := 3) (by omega) (mC_34 hc) fun I1 hk1 hoth hfk => ?_
        have hfE : zFr tE2 I I1 := zFr_tr (zFr_up (zFr_0 _ _) rfl) fun o k w2 => hfk o k (by
          unfold tE2 at w2
          unfold tK
          simp only [Bool.or_eq_false_iff] at w2 ⊢
          exact ⟨⟨w2.1.1.1.1.1.1.2, w2.1.1.1.1.1.2⟩, w2.1.1.1.1.2⟩)
        have hfu : zFr tTe I1 (zup I1 0 64 0) := zFr_up (zFr_0 _ _) rfl
        have he1 := gE_fr he (zFr_tr hfE (tTe_tE2 hfu)) rfl
        refine And.intro ⟨rfl, rfl⟩ ?_
        show zC G (n + 78) 115 [.ref 0, .int (nI b), .int (nI ([] : List Nat).length), .int (nI ng), .int (nI te)] (zup I1 0 64 0) L (zR1 q) _
        refine c_teachOrders hin hte hng2 3 (n + 78) b [] none (zup I1 0 64 0) L _ (by omega) he1 (mK_of hk1 (zup_ne (by decide)) (zup_ne (by decide)) (zup_ne (by decide))) (by omega) w (by show 0 + sBits b ≤ 3; omega) (fun f hf => by cases hf) (fun j y hy => by cases hy) zup_self fun I2 L2 hb2 hf2 h332 hl2 => ?_
        have hb2 : mTb (sTB g fr rl ru nf fo b ng te c) I2 L2 := hb2
        rw [hB] at hb2
        have hk2 : mK 3 c I2 := mK_of hk1 (by rw [zFr_row (o := 30) hf2 fun _ => rfl, zup_ne (by decide)]) (by rw [zFr_row (o := 31) hf2 fun _ => rfl, zup_ne (by decide)]) (by rw [zFr_row (o := 32) hf2 fun _ => rfl, zup_ne (by decide)])
        refine c_bringBack (c := c) (i := 3) (by omega) hk2 fun I3 hc3 hf3 => ?_
        have hf13 : zFr tTe I1 I3 := zFr_tr hfu (zFr_tr hf2 (tP_tTe (tC_tP hf3)))
        have he3 : gE g fr nr rl ru nf fo I3 L2 := gE_fr he (zFr_tr hfE (tTe_tE2 hf13)) (lTe_13 hl2)
        refine c_bitCount ?_
        rw [ebc]
        have e63 : L2 0 63 = lN v := hb2.2.1
        have hb34 : ∀ j y, l[j]? = some y → I3 34 j = nI y := fun j y hy => (hf3 34 j rfl).trans (hb2.2.2.2 j y hy)
        have fin : ∀ (us vs : List Nat), vs ++ us = l → ∀ (I' : zI) (L' : zL), mRow (tellL vs) I' L' → (∀ o k, ¬ (o = 0 ∧ k = 33) → I' o k = I3 o k) → (∀ o, o ≠ 17 → L' o = L2 o) → zQ G 116 (n + 78) post 86 [some (.ref 0), some (.int (nI b)), some (.int (nI ng)), some (.int (nI te)), some (.int (nI (sBits b))), some (.int (nI vs.length))] [] I' L' (zR1 q) := by
          intro us
          induction us with
          | nil =>
            intro vs hv I' L' hr hI hL
            rw [List.append_nil] at hv
            subst hv
            refine b116_86 (pk_le (sBits b) vs.length (fun _ => b116_111 ?_) (fun w2 => absurd w2 (by omega)) rfl rfl (by omega) (by omega))
            show zC G (n + 78) 4 [.ref 0, .long (L' 0 63)] I' L' (zR1 q) _
            rw [hL 0 (by decide), e63]
            refine c_tell hr (by unfold tellL; rw [List.length_map]; omega) fun I5 L5 hr5 hf5 hl5 => ?_
            have hI5 : ∀ o k, ¬ (o = 0 ∧ k = 33) → I5 o k = I3 o k := fun o k w2 => (hf5 o k w2).trans (hI o k w2)
            have hf35 : zFr tT I3 I5 := zFr_tell hI5
            refine qq I5 L5 (gE_fr he3 (tQ_tE2 (tT_tQ hf35)) ?_) ?_ (fun j c' hj hkj => ?_) hr5 ?_ (fun o k w2 => ?_)
            · rw [hl5 13 (by decide), hL 13 (by decide)]
            · exact mC_Q hc3 (zFr_row hf35 fun _ => rfl) (zFr_row hf35 fun _ => rfl) (fun k _ => hI5 0 k (by omega))
            · have a := hoth j c' (by omega) (by omega) (mK_of hkj (zup_ne (by decide)) (zup_ne (by decide)) (zup_ne (by decide)))
              exact mK_of a (by rw [zFr_row (o := 30) hf35 fun _ => rfl, zFr_row (o := 30) hf13 fun _ => rfl]) (by rw [zFr_row (o := 31) hf35 fun _ => rfl, zFr_row (o := 31) hf13 fun _ => rfl]) (by rw [zFr_row (o := 32) hf35 fun _ => rfl, zFr_row (o := 32) hf13 fun _ => rfl])
            · rw [hI5 0 34 (by omega), hf13 0 34 rfl, hfk 0 34 rfl]
              rfl
            · unfold tTc at w2
              simp only [Bool.or_eq_false_iff] at w2
              rw [hf35 o k w2.2, hf13 o k w2.1.1, hfk o k w2.1.2]
              unfold zup
              by_cases d : o = 0
              · rw [if_pos d, if_neg (fun a => by subst d a; cases w2.2)]
              · rw [if_neg d]
          | cons u us ih =>
            intro vs hv I' L' hr hI hL
            have hlen : vs.length + (us.length + 1) = l.length := by rw [← hv, List.length_append]; rfl
            have eu : I' 34 (nI vs.length).toNatClampNeg = nI u := by
              rw [nI_clamp (by omega), hI 34 _ (by omega)]
              refine hb34 vs.length u ?_
              rw [← hv, List.getElem?_append_right (Nat.le_refl _), Nat.sub_self]
              rfl
            refine b116_86 (pk_le (sBits b) vs.length (fun w2 => absurd w2 (by omega)) (fun _ => And.intro (vp_in_nI (by omega) (by decide)) ?_) rfl rfl (by omega) (by omega))
            show zC G (n + 78) 4 [.ref 0, .long (I' 34 (nI vs.length).toNatClampNeg).toInt64] I' L' (zR1 q) _
            rw [eu]
            refine c_tell hr (by unfold tellL; rw [List.length_map]; omega) fun I5 L5 hr5 hf5 hl5 => ?_
            have q2 := ih (vs ++ [u]) (by rw [List.append_assoc]; exact hv) I5 L5 (by unfold tellL at *; rw [List.map_append]; exact hr5) (fun o k w2 => (hf5 o k w2).trans (hI o k w2)) (fun o ho => (hl5 o ho).trans (hL o ho))
            rw [snoc_len, ← nI_1] at q2
            exact q2
        exact fin l [] rfl (zup I3 0 33 0) L2 (mRow_0 zup_self) (fun o k w2 => by
          unfold zup
          by_cases d : o = 0
          · rw [if_pos d, if_neg (fun a => w2 ⟨d, a⟩)]
          · rw [if_neg d]) (fun _ _ => rfl)
  · have := hb b w.1 w.2.2.2.1
    have := w.2.2.2.2.1
    omega
end
