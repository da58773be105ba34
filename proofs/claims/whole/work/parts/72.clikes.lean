-- ===== the class: turns, led and back =====
/-- the length of a static array -/
theorem zP_slen {G : zG} {y n N0 E : Nat} {post : zPo} {pc : Nat} {lv : zLv} {k : Nat} {r : List Value} {N : Nat} {I : zI} {L : zL} {R : zR} (hk : k < znst) (hd : decode (zby y) pc = .ok (.arraylength, 1)) (h : zP G y n N0 E post (pc + 1) lv (.int (Int32.ofNat (zstn k)) :: r) N I L R) : zP G y n N0 E post pc lv (.ref (1000000 + k) :: r) N I L R := by
  obtain ⟨l, D, dty, b, ts, fl⟩ := G
  intro p e s m args below meth c X H locs ls hP hS hl hN0 hNE
  obtain ⟨hx, hb, hml, hown, hts, hr, hlk, hini, hT, hNE0, hEN, hy, hfN⟩ := id X
  have hAA : ∀ q, zA b N0 s.heap.size q → b ≤ q := fun q hq => zA_le hT.2.2.2 hq
  have hTT := ((hT.2.1.2.2 k hk).2).narrow hAA
  have er : zrn b ts (.ref (1000000 + k)) = .ref (ts k) := zrn_st b ts k
  rw [List.map_cons, er]
  exact va_tlen hx hb hTT hS rfl hd (h p e s m args below meth c X H locs ls hP hS hl hN0 hNE)
def k198_71a : List zIt := k198_71.take 6
def k198_71c : List zIt := k198_71.drop 7
def k200_4a : List zIt := k200_4.take 17
def k200_4c : List zIt := k200_4.drop 18
theorem o198a : zok (zna 198).cls (zby 198) (zml 198) (zrt 198) ((zna 198).name == "<init>") 71 k198_71a = true := by decide +kernel
theorem o198c : zok (zna 198).cls (zby 198) (zml 198) (zrt 198) ((zna 198).name == "<init>") 86 k198_71c = true := by decide +kernel
theorem o200a : zok (zna 200).cls (zby 200) (zml 200) (zrt 200) ((zna 200).name == "<init>") 4 k200_4a = true := by decide +kernel
theorem o200c : zok (zna 200).cls (zby 200) (zml 200) (zrt 200) ((zna 200).name == "<init>") 35 k200_4c = true := by decide +kernel
theorem b198_71a {G : zG} {n N0 E : Nat} {post : zPo} {lv : zLv} {st : List Value} {N : Nat} {I : zI} {L : zL} {R : zR} (h : zwp E (zrt 198) (zP G 198 n N0 E post) (zCon G n) post k198_71a 71 lv st N I L R) : zP G 198 n N0 E post 71 lv st N I L R := zblk _ _ _ _ _ _ _ _ o198a h
theorem b198_86 {G : zG} {n N0 E : Nat} {post : zPo} {lv : zLv} {st : List Value} {N : Nat} {I : zI} {L : zL} {R : zR} (h : zwp E (zrt 198) (zP G 198 n N0 E post) (zCon G n) post k198_71c 86 lv st N I L R) : zP G 198 n N0 E post 86 lv st N I L R := zblk _ _ _ _ _ _ _ _ o198c h
theorem b200_4a {G : zG} {n N0 E : Nat} {post : zPo} {lv : zLv} {st : List Value} {N : Nat} {I : zI} {L : zL} {R : zR} (h : zwp E (zrt 200) (zP G 200 n N0 E post) (zCon G n) post k200_4a 4 lv st N I L R) : zP G 200 n N0 E post 4 lv st N I L R := zblk _ _ _ _ _ _ _ _ o200a h
theorem b200_35 {G : zG} {n N0 E : Nat} {post : zPo} {lv : zLv} {st : List Value} {N : Nat} {I : zI} {L : zL} {R : zR} (h : zwp E (zrt 200) (zP G 200 n N0 E post) (zCon G n) post k200_4c 35 lv st N I L R) : zP G 200 n N0 E post 35 lv st N I L R := zblk _ _ _ _ _ _ _ _ o200c h
theorem d198_85 : decode (zby 198) 85 = .ok (.arraylength, 1) := by decide +kernel
theorem d200_34 : decode (zby 200) 34 = .ok (.arraylength, 1) := by decide +kernel
theorem zinv : ∀ t, t < 8 → zstv 1 t = nI (tInv t) := by decide +kernel
/-- smaller and greater of small numbers -/
theorem nI_min {a b : Nat} (ha : a < 2 ^ 31) (hb : b < 2 ^ 31) : (if nI b < nI a then nI b else nI a) = nI (min a b) := by
  by_cases c : b < a
  · rw [if_pos ((nI_ltI hb ha).mpr c), show min a b = b by omega]
  · rw [if_neg (fun z => c ((nI_ltI hb ha).mp z)), show min a b = a by omega]
/-- where a place is led by a turn -/
def kLed (g : zg) (t m : Nat) : Nat := if g 0 = 1 ∨ sTurns g ≤ t ∨ sPl g ≤ m then m else sTd g m t
theorem kLed_lt {g : zg} (hg : gOk g) {t m : Nat} (hm : m < 9) : kLed g t m < 9 := by
  have hpl := sPl_pos hg
  unfold kLed
  by_cases c : g 0 = 1 ∨ sTurns g ≤ t ∨ sPl g ≤ m
  · rw [if_pos c]
    exact hm
  · rw [if_neg c]
    have := sTd_l hg (gT_turns (g := g) (t := t) (by omega)) (show m < sPl g by omega)
    omega
theorem kLed_inj {g : zg} (hg : gOk g) {t m m' : Nat} (h : kLed g t m = kLed g t m') : m = m' := by
  unfold kLed at h
  by_cases c : g 0 = 1 ∨ sTurns g ≤ t
  · rw [if_pos (by omega), if_pos (by omega)] at h
    exact h
  · have ht := gT_turns (g := g) (t := t) (by omega)
    by_cases d : sPl g ≤ m
    · rw [if_pos (.inr (.inr d))] at h
      by_cases d2 : sPl g ≤ m'
      · rw [if_pos (.inr (.inr d2))] at h
        exact h
      · rw [if_neg (by omega)] at h
        have := sTd_l hg ht (show m' < sPl g by omega)
        omega
    · rw [if_neg (show ¬ (g 0 = 1 ∨ sTurns g ≤ t ∨ sPl g ≤ m) by omega)] at h
      by_cases d2 : sPl g ≤ m'
      · rw [if_pos (.inr (.inr d2))] at h
        have := sTd_l hg ht (show m < sPl g by omega)
        omega
      · rw [if_neg (by omega)] at h
        exact sTd_inj hg ht (by omega) (by omega) h
theorem kLed_led {g : zg} (hg : gOk g) {t m : Nat} (ht : t < sTurns g) (hm : m < sMM g) : kLed g t m = sLed g m t := by
  unfold kLed
  rcases g0_01 hg with c | c
  · have e : sMM g = sPl g := sMM_bd c
    rw [if_neg (by omega), sLed_bd hg c (by omega)]
  · have := sTurns_1 c
    rw [if_pos (.inl c), show t = 0 by omega]
    unfold sLed
    rw [if_pos rfl]
/-- the turns, drawn -/
def kLt (g : zg) (I : zI) : Prop := I 51 13 = nI (sTurns g) ∧ ∀ t m, t < 8 → m < 9 → I 57 (9 * t + m) = nI (kLed g t m) ∧ I 58 (9 * t + kLed g t m) = nI m
theorem kLt_of {g : zg} {I I' : zI} (h : kLt g I) (h1 : I' 51 13 = I 51 13) (h7 : I' 57 = I 57) (h8 : I' 58 = I 58) : kLt g I' := by
  unfold kLt
  rw [h1, h7, h8]
  exact h
def tDT (o k : Nat) : Bool := Nat.beq o 57 || Nat.beq o 58 || (Nat.beq o 51 && Nat.beq k 13)
theorem sCell_out {g : zg} {p k : Nat} (hp : p < 3 ^ sPl g) (hk : sPl g ≤ k) : sCell p k = 0 := by
  unfold sCell
  rw [Nat.div_eq_of_lt (Nat.lt_of_lt_of_le hp (Nat.pow_le_pow_right (by decide) hk))]
section
variable {G : zG} {n : Nat} {I : zI} {L : zL} {R : zR} {q : zq} {post : zPo} {g : zg}
theorem k_turned {t m : Nat} (hg : kG g I) (hb : g 0 = 0) (ht : t < 8) (h4 : 4 ≤ t → g 1 = g 2) (hm : m < 9) (h : post (some (.int (nI (if sPl g ≤ m then m else sTd g m t)))) I L (zR1 q)) : zC G (n + 2) 197 [.ref 45, .int (nI t), .int (nI m)] I L (zR1 q) post := by
  obtain ⟨-, hw, hh, -⟩ := hg.1
  obtain ⟨e0, e1, -⟩ := hg.2.2.2.1 hb
  have ew : (if (1 : Int32) < I 45 0 then I 45 0 else 1) = nI (g 1) := by
    rw [e0]
    split
    · rfl
    · rename_i z
      have z2 : ¬ 1 < g 1 := fun w => z ((nI_ltI (a := 1) (by omega) (by omega)).mpr w)
      rw [show g 1 = 1 by omega]
      rfl
  have er : nI m - nI m / nI (g 1) * nI (g 1) = nI (m % g 1) := pk_rem (by omega) (by omega) (by omega)
  have ed : nI m / nI (g 1) = nI (m / g 1) := pk_div (by omega) (by omega) (by omega)
  have hx : m % g 1 < g 1 := Nat.mod_lt _ (by omega)
  have hdm : m / g 1 ≤ m := Nat.div_le_self _ _
  -- with toX and toY
  have fin : ∀ X Y : Nat, X < g 1 → Y < g 2 → (m / g 1 < g 2) → X = (if t < 4 then m % g 1 else m / g 1) → Y = (if t < 4 then m / g 1 else m % g 1) → zQ G 197 (n + 1) post 56 [some (.ref 45), some (.int (nI t)), some (.int (nI m)), some (.int (nI (g 1))), some (.int (nI (m % g 1))), some (.int (nI (m / g 1))), some (.int (nI X)), none] [.int (nI Y)] I L (zR1 q) := by
    intro X Y hX hY hmy eX eY
    have hpl : ¬ sPl g ≤ m := by
      have := (Nat.div_lt_iff_lt_mul (show 0 < g 1 by omega)).mp hmy
      unfold sPl
      rw [Nat.mul_comm]
      omega
    rw [if_neg hpl] at h
    have eT : sTd g m t = g 1 * (if t / 2 % 2 = 1 then g 2 - 1 - Y else Y) + (if t % 2 = 1 then g 1 - 1 - X else X) := by
      rw [eX, eY]
      rfl
    have last : ∀ X' Y' : Nat, X' = (if t % 2 = 1 then g 1 - 1 - X else X) → Y' = (if t / 2 % 2 = 1 then g 2 - 1 - Y else Y) → zQ G 197 (n + 1) post 96 [some (.ref 45), some (.int (nI t)), some (.int (nI m)), some (.int (nI (g 1))), some (.int (nI (m % g 1))), some (.int (nI (m / g 1))), some (.int (nI X')), some (.int (nI Y'))] [] I L (zR1 q) := by
      intro X' Y' h1 h2
      refine b197_96 ?_
      show post (some (.int (nI Y' * nI (g 1) + nI X'))) _ _ _
      rw [pk_mul, nI_add, Nat.mul_comm, h1, h2, ← eT]
      exact h
    have vert : ∀ X' : Nat, X' = (if t % 2 = 1 then g 1 - 1 - X else X) → zQ G 197 (n + 1) post 77 [some (.ref 45), some (.int (nI t)), some (.int (nI m)), some (.int (nI (g 1))), some (.int (nI (m % g 1))), some (.int (nI (m / g 1))), some (.int (nI X')), some (.int (nI Y))] [] I L (zR1 q) := by
      intro X' h1
      refine b197_77 (k_holds rfl (by omega) (k := 1) rfl (by omega) ?_)
      rw [Nat.testBit_eq_decide_div_mod_eq]
      refine zbo_eq (fun c => last X' Y h1 ?_) (fun c => ?_)
      · rw [if_neg (of_decide_eq_false c)]
      · have eY2 : I 45 1 - 1 - nI Y = nI (g 2 - 1 - Y) := by
          rw [e1, show (1 : Int32) = nI 1 from rfl, pk_sub (by omega), pk_sub (by omega)]
        show zP _ _ _ _ _ _ _ (zsl1 _ _ (.int (I 45 1 - 1 - nI Y))) _ _ _ _ _
        rw [eY2]
        exact last X' _ h1 (by rw [if_pos (of_decide_eq_true c)])
    refine b197_56 (k_holds rfl (by omega) (k := 0) rfl (by omega) ?_)
    rw [Nat.testBit_eq_decide_div_mod_eq, Nat.pow_zero, Nat.div_one]
    refine zbo_eq (fun c => vert X ?_) (fun c => ?_)
    · rw [if_neg (of_decide_eq_false c)]
    · have eX2 : I 45 0 - 1 - nI X = nI (g 1 - 1 - X) := by
        rw [e0, show (1 : Int32) = nI 1 from rfl, pk_sub (by omega), pk_sub (by omega)]
      show zP _ _ _ _ _ _ _ (zsl1 _ _ (.int (I 45 0 - 1 - nI X))) _ _ _ _ _
      rw [eX2]
      exact vert _ (by rw [if_pos (of_decide_eq_true c)])
  refine zin0 rfl rfl rfl (b197_0 ?_)
  have go : ∀ w : Int32, w = nI (g 1) → (¬ w = 0) ∧ (¬ w = 0) ∧ ((nI m / w < I 45 1 → zQ G 197 (n + 1) post 30 [some (.ref 45), some (.int (nI t)), some (.int (nI m)), some (.int w), some (.int (nI m - nI m / w * w)), some (.int (nI m / w)), none, none] [] I L (zR1 q)) ∧ (¬ nI m / w < I 45 1 → post (some (.int (nI m))) I L (zR1 q))) := by
    intro w hw'
    subst hw'
    have nz : ¬ nI (g 1) = 0 := nI_ne0 (by omega) (by omega)
    refine ⟨nz, nz, ?_⟩
    rw [er, ed, e1]
    refine pk_lt (m / g 1) (g 2) (fun c => b197_30 ?_) (fun c => ?_) rfl rfl (by omega) (by omega)
    · refine pk_le 4 t (fun c4 => b197_40 (b197_42 ?_)) (fun c4 => b197_42 ?_) rfl rfl (by omega) (by omega)
      · refine pk_le 4 t (fun _ => b197_54 ?_) (fun z => absurd z (by omega)) rfl rfl (by omega) (by omega)
        exact fin (m / g 1) (m % g 1) (Nat.lt_of_lt_of_eq c (h4 c4).symm) (Nat.lt_of_lt_of_eq hx (h4 c4)) c (by rw [if_neg (by omega)]) (by rw [if_neg (by omega)])
      · refine pk_le 4 t (fun z => absurd z (by omega)) (fun _ => ?_) rfl rfl (by omega) (by omega)
        exact fin (m % g 1) (m / g 1) hx c c (by rw [if_pos c4]) (by rw [if_pos c4])
    · have : sPl g ≤ m := by
        have := (Nat.le_div_iff_mul_le (show 0 < g 1 by omega)).mp c
        unfold sPl
        rw [Nat.mul_comm]
        exact this
      rw [if_pos this] at h
      exact h
  exact go _ ew
theorem k_drawTurns (hg : kG g I) (hj : I 51 1 = nI (g 7)) (h : ∀ I' : zI, kLt g I' → zFr tDT I I' → post none I' L (zR1 q)) : zC G (n + 3) 196 [.ref 51] I L (zR1 q) post := by
  have hts := sTurns_le g
  have g7 := hg.1.2.2.2.2.2.2.2.1
  -- the loops
  have outer : ∀ j t (J : zI) (v3 v4 : Option Value), t + j = 8 → J 51 13 = nI (sTurns g) → (∀ t' m, t' < t → m < 9 → J 57 (9 * t' + m) = nI (kLed g t' m) ∧ J 58 (9 * t' + kLed g t' m) = nI m) → zFr tDT I J → zQ G 196 (n + 2) post 53 [some (.ref 51), some (.ref 45), some (.int (nI t)), v3, v4] [] J L (zR1 q) := by
    intro j
    induction j with
    | zero =>
      intro t J v3 v4 ht h13 hl hf
      exact b196_53 (pk_le 8 t (fun _ => b196_144 (h J ⟨h13, fun t' m ht' hm => hl t' m (by omega) hm⟩ hf)) (fun z => absurd z (by omega)) rfl rfl (by omega) (by omega))
    | succ j ih =>
      intro t J v3 v4 ht h13 hl hf
      have inner : ∀ i m (J : zI) (v4 : Option Value), m + i = 9 → J 51 13 = nI (sTurns g) → (∀ t' m', t' < t → m' < 9 → J 57 (9 * t' + m') = nI (kLed g t' m') ∧ J 58 (9 * t' + kLed g t' m') = nI m') → (∀ m', m' < m → J 57 (9 * t + m') = nI (kLed g t m') ∧ J 58 (9 * t + kLed g t m') = nI m') → zFr tDT I J → zQ G 196 (n + 2) post 61 [some (.ref 51), some (.ref 45), some (.int (nI t)), some (.int (nI m)), v4] [] J L (zR1 q) := by
        intro i
        induction i with
        | zero =>
          intro m J v4 hm h13 hl hl2 hf
          refine b196_61 (pk_le 9 m (fun _ => b196_138 ?_) (fun z => absurd z (by omega)) rfl rfl (by omega) (by omega))
          have qq := fun v3 => ih (t + 1) J v3 v4 (by omega) h13 (fun t' m' ht' hm' => by
            by_cases w : t' = t
            · subst w
              exact hl2 m' (by omega)
            · exact hl t' m' (by omega) hm') hf
          rw [← nI_1] at qq
          exact qq _
        | succ i ih2 =>
          intro m J v4 hm h13 hl hl2 hf
          have hgJ : kG g J := kG_of hg (zFr_row hf fun _ => rfl)
          have kl9 := kLed_lt hg.1 (t := t) (show m < 9 by omega)
          have e1 : nI t * 9 + nI m = nI (9 * t + m) := by rw [show (9 : Int32) = nI 9 from rfl, pk_mul, nI_add, Nat.mul_comm]
          have e2 : nI t * 9 + nI (kLed g t m) = nI (9 * t + kLed g t m) := by rw [show (9 : Int32) = nI 9 from rfl, pk_mul, nI_add, Nat.mul_comm]
          have store : ∀ to : Nat, to = kLed g t m → zQ G 196 (n + 2) post 92 [some (.ref 51), some (.ref 45), some (.int (nI t)), some (.int (nI m)), v4] [.int (nI to)] J L (zR1 q) := by
            intro to hto
            subst hto
            refine b196_92 (And.intro (fun z => absurd z (nI_pos (by omega))) (fun _ => pk_le 9 (kLed g t m) (fun z => absurd z (by omega)) (fun _ => And.intro ?_ (And.intro ?_ ?_)) rfl rfl (by omega) (by omega)))
            · rw [e1]
              exact vp_in_nI (by omega) (by decide)
            · rw [e2]
              exact vp_in_nI (by omega) (by decide)
            · rw [e1, e2, nI_clamp (by omega), nI_clamp (by omega)]
              refine b196_132 ?_
              have qq := fun v4 => ih2 (m + 1) (zup (zup J 57 (9 * t + m) (nI (kLed g t m))) 58 (9 * t + kLed g t m) (nI m)) v4 (by omega) (by rw [zup_ne (by decide), zup_ne (by decide)]; exact h13) (fun t' m' ht' hm' => ?_) (fun m' hm' => ?_) (zFr_up (zFr_up hf rfl) rfl)
              · rw [← nI_1] at qq
                exact qq _
              · have := kLed_lt hg.1 (t := t') hm'
                rw [zup_ne (by decide), zup_k (by omega), zup_k (by omega), zup_ne (by decide)]
                exact hl t' m' ht' hm'
              · by_cases w : m' = m
                · subst w
                  rw [zup_ne (by decide), zup_self, zup_self]
                  exact ⟨rfl, rfl⟩
                · have nk : kLed g t m' ≠ kLed g t m := fun z => w (kLed_inj hg.1 z)
                  rw [zup_ne (by decide), zup_k (by omega), zup_k (by omega), zup_ne (by decide)]
                  exact hl2 m' (by omega)
          refine b196_61 (pk_le 9 m (fun z => absurd z (by omega)) (fun _ => ?_) rfl rfl (by omega) (by omega))
          have same : (g 0 = 1 ∨ sTurns g ≤ t) → zQ G 196 (n + 2) post 82 [some (.ref 51), some (.ref 45), some (.int (nI t)), some (.int (nI m)), v4] [] J L (zR1 q) := fun w => b196_82 (store m (by unfold kLed; rw [if_pos (by omega)]))
          refine khpg hgJ (fun cb => ?_) (fun ch => same (.inl ch))
          show (nI t < J 51 13 → _) ∧ (¬ nI t < J 51 13 → _)
          rw [h13]
          refine pk_lt t (sTurns g) (fun c => b196_86 ?_) (fun c => same (.inr c)) rfl rfl (by omega) (by omega)
          have gt := gT_turns c
          refine k_turned hgJ cb (by omega) gt.2 (by omega) ?_
          refine store _ ?_
          unfold kLed
          by_cases w : sPl g ≤ m
          · rw [if_pos w, if_pos (.inr (.inr w))]
          · rw [if_neg w, if_neg (by omega)]
      exact b196_53 (pk_le 8 t (fun z => absurd z (by omega)) (fun _ => inner 9 0 J v4 (by omega) h13 hl (fun m' hm' => absurd hm' (Nat.not_lt_zero _)) hf) rfl rfl (by omega) (by omega))
  have start : ∀ (x : Int32) (lv : zLv), x = nI (sTurns g) → zQ G 196 (n + 2) post 51 [some (.ref 51), some (.ref 45), none, none, none] [] (zup I 51 13 x) L (zR1 q) := by
    intro x lv hx
    subst hx
    exact b196_51 (outer 8 0 _ none none (by omega) zup_self (fun t' m ht' => absurd ht' (Nat.not_lt_zero _)) (zFr_up (zFr_0 _ _) rfl))
  have one : (g 7 = 0 ∨ g 0 = 1) → zQ G 196 (n + 2) post 22 [some (.ref 51), some (.ref 45), none, none, none] [] I L (zR1 q) := by
    intro w
    refine b196_22 (start _ [] ?_)
    unfold sTurns
    by_cases c : g 7 = 0
    · rw [if_pos c]
      rfl
    · rw [if_neg c, if_pos (w.resolve_left c)]
      rfl
  refine zin0 rfl rfl rfl (b196_0 ?_)
  show (I 51 1 = 0 → _) ∧ (¬ I 51 1 = 0 → _)
  rw [hj]
  refine pk_eq (g 7) 0 (fun c => one (.inl c)) (fun c => khp hg (fun cb => b196_30 ?_) (fun ch => one (.inr ch))) rfl rfl (by omega) (by omega)
  obtain ⟨e0, e1, -⟩ := hg.2.2.2.1 cb
  obtain ⟨-, hw, hh, -⟩ := hg.1
  show (¬ I 45 0 = I 45 1 → _) ∧ (I 45 0 = I 45 1 → _)
  rw [e0, e1]
  refine pk_ne (g 1) (g 2) (fun d => b196_47 (b196_48 (start _ [] ?_))) (fun d => b196_48 (start _ [] ?_)) rfl rfl (by omega) (by omega)
  · unfold sTurns
    rw [if_neg c, if_neg (by omega), if_neg d]
    rfl
  · unfold sTurns
    rw [if_neg c, if_neg (by omega), if_pos d]
    rfl
def tRS (o k : Nat) : Bool := Nat.beq o 61
theorem k_readStones {p : Nat} (hp : p < 19683) (h : ∀ I' : zI, (∀ k, k < 9 → I' 61 k = nI (sCell p k)) → zFr tRS I I' → post none I' L (zR1 q)) : zC G (n + 1) 199 [.ref 51, .int (nI p)] I L (zR1 q) post := by
  have key : ∀ j i (J : zI), i + j = 9 → (∀ k, k < i → J 61 k = nI (sCell p k)) → zFr tRS I J → zQ G 199 n post 4 [some (.ref 51), some (.int (nI p)), some (.int (nI (p / 3 ^ i))), some (.int (nI i))] [] J L (zR1 q) := by
    intro j
    induction j with
    | zero =>
      intro i J hi hJ hf
      exact b199_4 (pk_le 9 i (fun _ => b199_29 (h J (fun k hk => hJ k (by omega)) hf)) (fun z => absurd z (by omega)) rfl rfl (by omega) (by omega))
    | succ j ih =>
      intro i J hi hJ hf
      have hd := Nat.div_le_self p (3 ^ i)
      have e3 : nI (p / 3 ^ i) - nI (p / 3 ^ i) / 3 * 3 = nI (sCell p i) := pk_rem (d := 3) (by omega) (by decide) (by decide)
      have e4 : nI (p / 3 ^ i) / 3 = nI (p / 3 ^ (i + 1)) := by
        rw [show nI (p / 3 ^ i) / 3 = nI (p / 3 ^ i / 3) from pk_div (d := 3) (by omega) (by decide) (by decide), Nat.div_div_eq_div_mul, Nat.pow_succ]
      refine b199_4 (pk_le 9 i (fun z => absurd z (by omega)) (fun _ => And.intro (by decide) (And.intro (vp_in_nI (by omega) (by decide)) (And.intro (by decide) ?_))) rfl rfl (by omega) (by omega))
      rw [e3, nI_clamp (by omega)]
      have qq := ih (i + 1) (zup J 61 i (nI (sCell p i))) (by omega) (fun k hk => by
        rw [zup_eq]
        by_cases w : k = i
        · rw [if_pos w, w]
        · rw [if_neg w]
          exact hJ k (by omega)) (zFr_up hf rfl)
      rw [← nI_1, ← e4] at qq
      exact qq
  have qq := key 9 0 I (by omega) (fun k hk => absurd hk (Nat.not_lt_zero _)) (zFr_0 _ _)
  rw [Nat.pow_zero, Nat.div_one] at qq
  exact zin0 rfl rfl rfl (b199_0 qq)
theorem k_imageBy {p t : Nat} (hg : kG g I) (hb : g 0 = 0) (hl : kLt g I) (hs : ∀ k, k < 9 → I 61 k = nI (sCell p k)) (hp : p < 3 ^ sPl g) (ht : t < sTurns g) (h0 : t ≠ 0) (h : post (some (.int (nI (sTP g p t)))) I L (zR1 q)) : zC G (n + 1) 200 [.ref 51, .int (nI t)] I L (zR1 q) post := by
  have hpl := sPl_pos hg.1
  have hts := sTurns_le g
  have key : ∀ j i (v4 : Option Value), i + j = 9 → zQ G 200 n post 4 [some (.ref 51), some (.int (nI t)), some (.int (nI (sTPk g p t (min i (sPl g))))), some (.int (nI i)), v4] [] I L (zR1 q) := by
    intro j
    induction j with
    | zero =>
      intro i v4 hi
      refine b200_4a (pk_le 9 i (fun _ => b200_63 ?_) (fun z => absurd z (by omega)) rfl rfl (by omega) (by omega))
      rw [show min i (sPl g) = sPl g by omega]
      unfold sTP at h
      rw [if_neg h0] at h
      exact h
    | succ j ih =>
      intro i v4 hi
      have e1 : nI t * 9 + nI i = nI (9 * t + i) := by rw [show (9 : Int32) = nI 9 from rfl, pk_mul, nI_add, Nat.mul_comm]
      have k9 := kLed_lt hg.1 (t := t) (show i < 9 by omega)
      obtain ⟨l1, -⟩ := hl.2 t i (by omega) (by omega)
      obtain ⟨z1, z2⟩ := zpow_lt (kLed g t i) (by omega)
      refine b200_4a (pk_le 9 i (fun z => absurd z (by omega)) (fun _ => And.intro ?_ ?_) rfl rfl (by omega) (by omega))
      · rw [e1]
        exact vp_in_nI (by omega) (by decide)
      · rw [e1, nI_clamp (by omega), l1]
        refine And.intro (fun z => absurd z (nI_pos (by omega))) (fun _ => zP_slen (by decide) d200_34 (b200_35 ?_))
        refine pk_le 10 (kLed g t i) (fun z => absurd z (by omega)) (fun _ => And.intro (vp_in_nI (by omega) (by decide)) (And.intro (vp_in_nI (show kLed g t i < 10 by omega) (by decide)) (b200_55 ?_))) rfl rfl (by omega) (by omega)
        rw [nI_clamp (by omega), nI_clamp (by omega), hs i (by omega), zpow0 _ (by omega)]
        have e2 : nI (sTPk g p t (min i (sPl g))) + nI (sCell p i) * nI (3 ^ kLed g t i) = nI (sTPk g p t (min (i + 1) (sPl g))) := by
          rw [pk_mul, nI_add]
          congr 1
          by_cases w : i < sPl g
          · rw [show min i (sPl g) = i by omega, show min (i + 1) (sPl g) = i + 1 by omega, sTPk]
            unfold kLed
            rw [if_neg (by omega)]
          · rw [show min i (sPl g) = sPl g by omega, show min (i + 1) (sPl g) = sPl g by omega, sCell_out hp (show sPl g ≤ i by omega), Nat.zero_mul, Nat.add_zero]
        have qq := fun v4 => ih (i + 1) v4 (by omega)
        rw [← nI_1, ← e2] at qq
        exact qq _
  have qq := key 9 0 none (by omega)
  rw [show min 0 (sPl g) = 0 by omega] at qq
  exact zin0 rfl rfl rfl (b200_0 qq)
end
