-- ===== odds, told =====
def sWt (g : zg) (fr : Nat → Nat) (c : sC) (p m : Nat) : Nat := if sHas g (sBox g p) m = true then (if c.2.1 (sBox g p) = true then c.1 (9 * sBox g p + m) else fr (min 20 (sStn g (sBox g p)))) else 0
def sPO (g : zg) (F : zfo) (v : Nat → Nat → Nat) (p k e : Nat) : Nat := if F.2.1 k = 102 then sSum (fun m => if sCan g p m = true then v (sBeh g p m) e else 0) (sMM g) / sSum (sCanW g p) (sMM g) else v (sBeh g p (sFMv g F k p)) e
def sOB (g : zg) (fr : Nat → Nat) (c : sC) (v : Nat → Nat → Nat) (p e : Nat) : Nat := if sSum (sWt g fr c p) (sMM g) = 0 then (if e = 0 then 1000000000 else 0) else sSum (fun m => sWt g fr c p m * v (sBeh g p (sMv g p m)) e) (sMM g) / sSum (sWt g fr c p) (sMM g)
def sOF (g : zg) (F : zfo) (v : Nat → Nat → Nat) (p e : Nat) : Nat := if F.1 = 1 then sPO g F v p 0 e else sSum (fun i => F.2.2.1 i * sPO g F v p i e) F.1 / sSum F.2.2.1 F.1
def sOn (g : zg) (fr : Nat → Nat) (c : sC) (F : zfo) : Nat → Nat → Nat → Nat
  | 0, _, _ => 0
  | n + 1, p, e => if sWork g p < 2 then (if sWork g p = g 8 then sOB g fr c (sOn g fr c F n) p e else sOF g F (sOn g fr c F n) p e) else if e = sEnd g p then 1000000000 else 0
def sOd (g : zg) (fr : Nat → Nat) (c : sC) (F : zfo) (p e : Nat) : Nat := sOn g fr c F (sDep g p + 1) p e
theorem sSum_congr {f f' : Nat → Nat} : ∀ n, (∀ i, i < n → f i = f' i) → sSum f n = sSum f' n
  | 0, _ => rfl
  | n + 1, h => by
    show sSum f n + f n = sSum f' n + f' n
    rw [sSum_congr n (fun i hi => h i (by omega)), h n (by omega)]
theorem sSum_wb {w x : Nat → Nat} {B : Nat} (h : ∀ i, x i ≤ B) : ∀ n, sSum (fun i => w i * x i) n ≤ B * sSum w n
  | 0 => Nat.zero_le _
  | n + 1 => by
    have q := sSum_wb (w := w) h n
    have q2 : w n * x n ≤ B * w n := by rw [Nat.mul_comm]; exact Nat.mul_le_mul_right _ (h n)
    show sSum (fun i => w i * x i) n + w n * x n ≤ B * (sSum w n + w n)
    rw [Nat.mul_add]
    omega
theorem sWt_can {g : zg} {fr : Nat → Nat} {c : sC} {p m : Nat} (h : sWt g fr c p m ≠ 0) : sHas g (sBox g p) m = true := by
  unfold sWt at h
  split at h
  · assumption
  · exact absurd rfl h
theorem sPO_congr {g : zg} (hg : gOk g) {F : zfo} {v v' : Nat → Nat → Nat} {p k e : Nat} (hw : sWork g p < 2) (h : ∀ m, sCan g p m = true → v (sBeh g p m) e = v' (sBeh g p m) e) : sPO g F v p k e = sPO g F v' p k e := by
  unfold sPO
  rw [h _ (sFMv_can hg hw), sSum_congr (f' := fun m => if sCan g p m = true then v' (sBeh g p m) e else 0) (sMM g) (fun m _ => by
    by_cases c : sCan g p m = true
    · rw [if_pos c, if_pos c, h m c]
    · rw [if_neg c, if_neg c])]
theorem sOB_congr {g : zg} (hg : gOk g) {fr : Nat → Nat} {c : sC} {v v' : Nat → Nat → Nat} {p e : Nat} (h : ∀ m, sCan g p m = true → v (sBeh g p m) e = v' (sBeh g p m) e) : sOB g fr c v p e = sOB g fr c v' p e := by
  unfold sOB
  rw [sSum_congr (f := fun m => sWt g fr c p m * v (sBeh g p (sMv g p m)) e) (f' := fun m => sWt g fr c p m * v' (sBeh g p (sMv g p m)) e) (sMM g) (fun m _ => by
    by_cases z : sWt g fr c p m = 0
    · rw [z, Nat.zero_mul, Nat.zero_mul]
    · rw [h _ (sMv_can hg (sHas_lt hg (sWt_can z)).2)])]
theorem sOF_congr {g : zg} (hg : gOk g) {F : zfo} {v v' : Nat → Nat → Nat} {p e : Nat} (hw : sWork g p < 2) (h : ∀ m, sCan g p m = true → v (sBeh g p m) e = v' (sBeh g p m) e) : sOF g F v p e = sOF g F v' p e := by
  unfold sOF
  rw [sPO_congr hg hw h, sSum_congr (f' := fun i => F.2.2.1 i * sPO g F v' p i e) F.1 (fun i _ => by rw [sPO_congr hg hw h])]
theorem sOn_fuel {g : zg} (hg : gOk g) {fr : Nat → Nat} {c : sC} {F : zfo} (d : Nat) : ∀ p e, sDep g p = d → ∀ f, d < f → sOn g fr c F f p e = sOn g fr c F (d + 1) p e := by
  induction d using Nat.strongRecOn with
  | _ d ih =>
    intro p e hp f hf
    obtain ⟨f, rfl⟩ : ∃ f', f = f' + 1 := ⟨f - 1, by omega⟩
    have key : ∀ m, sCan g p m = true → sOn g fr c F f (sBeh g p m) e = sOn g fr c F d (sBeh g p m) e := fun m hm => by
      have hd := sDep_lt hg hm
      rw [ih (sDep g (sBeh g p m)) (by omega) _ e rfl f (by omega), ih (sDep g (sBeh g p m)) (by omega) _ e rfl d (by omega)]
    rw [sOn, sOn]
    by_cases hw : sWork g p < 2
    · rw [if_pos hw, if_pos hw, sOB_congr hg key, sOF_congr hg hw key]
    · rw [if_neg hw, if_neg hw]
theorem sOd_eq {g : zg} (hg : gOk g) {fr : Nat → Nat} {c : sC} {F : zfo} (p e : Nat) : sOd g fr c F p e = if sWork g p < 2 then (if sWork g p = g 8 then sOB g fr c (sOd g fr c F) p e else sOF g F (sOd g fr c F) p e) else if e = sEnd g p then 1000000000 else 0 := by
  have key : ∀ m, sCan g p m = true → sOn g fr c F (sDep g p) (sBeh g p m) e = sOd g fr c F (sBeh g p m) e := fun m hm => sOn_fuel hg _ _ e rfl _ (sDep_lt hg hm)
  have e1 : sOd g fr c F p e = sOn g fr c F (sDep g p + 1) p e := rfl
  rw [e1, sOn]
  by_cases hw : sWork g p < 2
  · rw [if_pos hw, if_pos hw, sOB_congr hg key, sOF_congr hg hw key]
  · rw [if_neg hw, if_neg hw]
theorem zdiv_le {a b B : Nat} (h : a ≤ B * b) : a / b ≤ B := by
  rcases Nat.eq_zero_or_pos b with z | z
  · rw [z, Nat.div_zero]
    exact Nat.zero_le _
  · exact Nat.div_le_of_le_mul (by rw [Nat.mul_comm]; exact h)
theorem sCanW_sum {g : zg} {p B : Nat} {x : Nat → Nat} (h : ∀ i, x i ≤ B) (n : Nat) : sSum (fun m => if sCan g p m = true then x m else 0) n ≤ B * sSum (sCanW g p) n := by
  have e : sSum (fun m => if sCan g p m = true then x m else 0) n = sSum (fun m => sCanW g p m * x m) n := sSum_congr n fun m _ => by
    unfold sCanW
    split
    · rw [Nat.one_mul]
    · rw [Nat.zero_mul]
  rw [e]
  exact sSum_wb h n
theorem sPO_le {g : zg} {F : zfo} {v : Nat → Nat → Nat} {p k e : Nat} (h : ∀ x, v x e ≤ 1000000000) : sPO g F v p k e ≤ 1000000000 := by
  unfold sPO
  split
  · exact zdiv_le (sCanW_sum (fun i => h _) _)
  · exact h _
theorem sOn_le (g : zg) (fr : Nat → Nat) (c : sC) (F : zfo) : ∀ n p e, sOn g fr c F n p e ≤ 1000000000 := by
  intro n
  induction n with
  | zero => intro p e; exact Nat.zero_le _
  | succ n ih =>
    intro p e
    rw [sOn]
    split
    · split
      · unfold sOB
        split
        · split <;> omega
        · exact zdiv_le (sSum_wb (fun i => ih _ e) _)
      · unfold sOF
        split
        · exact sPO_le fun x => ih x e
        · exact zdiv_le (sSum_wb (fun i => sPO_le fun x => ih x e) _)
    · split <;> omega
theorem sOd_le (g : zg) (fr : Nat → Nat) (c : sC) (F : zfo) (p e : Nat) : sOd g fr c F p e ≤ 1000000000 := sOn_le g fr c F _ p e
-- ===== rows of longs, some of them set =====
def lSet (L : zL) (o b i : Nat) (f : Nat → Int64) : zL := fun a k => if a = o then (if b ≤ k ∧ k < b + i then f (k - b) else L a k) else L a k
theorem lSet_0 (L : zL) (o b : Nat) (f : Nat → Int64) : lSet L o b 0 f = L := by
  funext a k
  unfold lSet
  split
  · rw [if_neg (by omega)]
  · rfl
theorem lSet_s (L : zL) (o b i : Nat) (f : Nat → Int64) : zup (lSet L o b i f) o (b + i) (f i) = lSet L o b (i + 1) f := by
  funext a k
  unfold zup lSet
  by_cases c : a = o
  · rw [if_pos c, if_pos c, if_pos c]
    by_cases d : k = b + i
    · rw [if_pos d, if_pos (by omega), d, show b + i - b = i by omega]
    · rw [if_neg d]
      by_cases d2 : b ≤ k ∧ k < b + i
      · rw [if_pos d2, if_pos (by omega)]
      · rw [if_neg d2, if_neg (by omega)]
  · rw [if_neg c, if_neg c, if_neg c]
theorem lSet_in {L : zL} {o b i k : Nat} {f : Nat → Int64} (h : k < i) : lSet L o b i f o (b + k) = f k := by
  unfold lSet
  rw [if_pos rfl, if_pos (by omega), show b + k - b = k by omega]
theorem lSet_out {L : zL} {o b i k : Nat} {f : Nat → Int64} (h : k < b ∨ b + i ≤ k) : lSet L o b i f o k = L o k := by
  unfold lSet
  rw [if_pos rfl, if_neg (by omega)]
theorem lSet_ne {L : zL} {o b i a : Nat} {f : Nat → Int64} (h : a ≠ o) : lSet L o b i f a = L a := by
  funext k
  unfold lSet
  rw [if_neg h]
-- ===== the reference: odds =====
def oW (g : zg) (fr : Nat → Nat) (c : sC) (f : Nat) (F : zfo) (I : zI) (L : zL) : Prop := mG g I ∧ mPos g I ∧ mF fr I ∧ mC c I ∧ mFo1 f F I L
theorem oW_of {g : zg} {fr : Nat → Nat} {c : sC} {f : Nat} {F : zfo} {I I' : zI} {L L' : zL} (h : oW g fr c f F I L) (hI : ∀ o, o ≠ 26 → I' o = I o) (hL : L' 13 = L 13) : oW g fr c f F I' L' := by
  obtain ⟨a1, a2, a3, a4, a5⟩ := h
  refine ⟨mG_of a1 (hI 0 (by decide)), mPos_of a2 (hI 1 (by decide)) (hI 2 (by decide)) (hI 3 (by decide)), fun s hs => by rw [hI 6 (by decide)]; exact a3 s hs, mC_of a4 (hI 5 (by decide)) (hI 4 (by decide)) (by rw [hI 0 (by decide)]) (by rw [hI 0 (by decide)]) (by rw [hI 0 (by decide)]), ?_⟩
  unfold mFo1
  rw [hI 10 (by decide), hI 11 (by decide), hI 12 (by decide), hI 14 (by decide), hL]
  exact a5
def oPre (g : zg) (v : Nat → Nat → Nat) (d : Nat) (I : zI) (L : zL) : Prop := (∀ x, x < 19683 → I 26 x = 0 ∨ I 26 x = 1) ∧ ∀ x, x < 19683 → I 26 x = 1 → sDep g x ≤ d → ∀ e, e < 3 → L 25 (3 * x + e) = lN (v x e)
def oQ (g : zg) (v : Nat → Nat → Nat) (d p : Nat) (I : zI) (L : zL) : Prop := (∀ x, x < 19683 → I 26 x = 0 ∨ I 26 x = 1) ∧ ∀ x, x < 19683 → x ≠ p → I 26 x = 1 → sDep g x ≤ d → ∀ e, e < 3 → L 25 (3 * x + e) = lN (v x e)
/-- what a body may touch: p's odds, shallower positions, sums from b7 and b8 on -/
def oBr (g : zg) (d p b7 b8 : Nat) (I : zI) (L : zL) (I' : zI) (L' : zL) : Prop := (∀ x, d ≤ sDep g x → I' 26 x = I 26 x ∧ (x ≠ p → ∀ e, e < 3 → L' 25 (3 * x + e) = L 25 (3 * x + e))) ∧ (∀ x, I 26 x = 1 → I' 26 x = 1) ∧ ((∀ k, k < b7 → L' 27 k = L 27 k) ∧ ∀ k, k < b8 → L' 28 k = L 28 k) ∧ (∀ o, o ≠ 26 → I' o = I o) ∧ ∀ o, o ≠ 25 → o ≠ 27 → o ≠ 28 → L' o = L o
theorem oBr_0 (g : zg) (d p b7 b8 : Nat) (I : zI) (L : zL) : oBr g d p b7 b8 I L I L := ⟨fun _ _ => ⟨rfl, fun _ _ _ => rfl⟩, fun _ h => h, ⟨fun _ _ => rfl, fun _ _ => rfl⟩, fun _ _ => rfl, fun _ _ _ _ => rfl⟩
theorem oBr_tr {g : zg} {d p b7 b8 : Nat} {I I' I'' : zI} {L L' L'' : zL} (h : oBr g d p b7 b8 I L I' L') (h2 : oBr g d p b7 b8 I' L' I'' L'') : oBr g d p b7 b8 I L I'' L'' := ⟨fun x hx => ⟨(h2.1 x hx).1.trans (h.1 x hx).1, fun hp e he => ((h2.1 x hx).2 hp e he).trans ((h.1 x hx).2 hp e he)⟩, fun x hx => h2.2.1 x (h.2.1 x hx), ⟨fun k hk => (h2.2.2.1.1 k hk).trans (h.2.2.1.1 k hk), fun k hk => (h2.2.2.1.2 k hk).trans (h.2.2.1.2 k hk)⟩, fun o ho => (h2.2.2.2.1 o ho).trans (h.2.2.2.1 o ho), fun o h5 h7 h8 => (h2.2.2.2.2 o h5 h7 h8).trans (h.2.2.2.2 o h5 h7 h8)⟩
theorem oBr_le {g : zg} {d p b7 b8 c7 c8 : Nat} {I I' : zI} {L L' : zL} (h : oBr g d p b7 b8 I L I' L') (h7 : c7 ≤ b7) (h8 : c8 ≤ b8) : oBr g d p c7 c8 I L I' L' := ⟨h.1, h.2.1, ⟨fun k hk => h.2.2.1.1 k (by omega), fun k hk => h.2.2.1.2 k (by omega)⟩, h.2.2.2⟩
theorem oBr_7 {g : zg} {d p b7 b8 b : Nat} (I : zI) (L : zL) (i : Nat) (f : Nat → Int64) (h : b7 ≤ b) : oBr g d p b7 b8 I L I (lSet L 27 b i f) := ⟨fun _ _ => ⟨rfl, fun _ _ _ => by rw [lSet_ne (by decide)]⟩, fun _ h => h, ⟨fun k hk => lSet_out (by omega), fun _ _ => by rw [lSet_ne (by decide)]⟩, fun _ _ => rfl, fun o h5 h7 h8 => lSet_ne h7⟩
theorem oBr_8 {g : zg} {d p b7 b8 b : Nat} (I : zI) (L : zL) (i : Nat) (f : Nat → Int64) (h : b8 ≤ b) : oBr g d p b7 b8 I L I (lSet L 28 b i f) := ⟨fun _ _ => ⟨rfl, fun _ _ _ => by rw [lSet_ne (by decide)]⟩, fun _ h => h, ⟨fun _ _ => by rw [lSet_ne (by decide)], fun k hk => lSet_out (by omega)⟩, fun _ _ => rfl, fun o h5 h7 h8 => lSet_ne h8⟩
theorem oBr_5 {g : zg} {d p b7 b8 : Nat} (I : zI) (L : zL) (i : Nat) (f : Nat → Int64) (h : i ≤ 3) : oBr g d p b7 b8 I L I (lSet L 25 (3 * p) i f) := ⟨fun _ _ => ⟨rfl, fun hp e he => lSet_out (by omega)⟩, fun _ h => h, ⟨fun _ _ => by rw [lSet_ne (by decide)], fun _ _ => by rw [lSet_ne (by decide)]⟩, fun _ _ => rfl, fun o h5 h7 h8 => lSet_ne h5⟩
theorem oQ_7 {g : zg} {v : Nat → Nat → Nat} {d p b : Nat} {I : zI} {L : zL} (i : Nat) (f : Nat → Int64) (h : oQ g v d p I L) : oQ g v d p I (lSet L 27 b i f) := ⟨h.1, fun x hx hp h1 hd e he => by rw [lSet_ne (by decide)]; exact h.2 x hx hp h1 hd e he⟩
theorem oQ_8 {g : zg} {v : Nat → Nat → Nat} {d p b : Nat} {I : zI} {L : zL} (i : Nat) (f : Nat → Int64) (h : oQ g v d p I L) : oQ g v d p I (lSet L 28 b i f) := ⟨h.1, fun x hx hp h1 hd e he => by rw [lSet_ne (by decide)]; exact h.2 x hx hp h1 hd e he⟩
theorem oQ_5 {g : zg} {v : Nat → Nat → Nat} {d p : Nat} {I : zI} {L : zL} (i : Nat) (f : Nat → Int64) (hi : i ≤ 3) (h : oQ g v d p I L) : oQ g v d p I (lSet L 25 (3 * p) i f) := ⟨h.1, fun x hx hp h1 hd e he => by rw [lSet_out (by omega)]; exact h.2 x hx hp h1 hd e he⟩
def oFr (g : zg) (d b : Nat) (I : zI) (L : zL) (I' : zI) (L' : zL) : Prop := (∀ x, d < sDep g x → I' 26 x = I 26 x ∧ ∀ e, e < 3 → L' 25 (3 * x + e) = L 25 (3 * x + e)) ∧ (∀ x, I 26 x = 1 → I' 26 x = 1) ∧ ((∀ k, k < b → L' 27 k = L 27 k) ∧ ∀ k, k < b → L' 28 k = L 28 k) ∧ (∀ o, o ≠ 26 → I' o = I o) ∧ ∀ o, o ≠ 25 → o ≠ 27 → o ≠ 28 → L' o = L o
/-- the contract of oddsOf at the depth d -/
def OdP (G : zG) (g : zg) (fr : Nat → Nat) (c : sC) (f : Nat) (F : zfo) (q : zq) (d : Nat) : Prop := ∀ (p N deep : Nat) (I : zI) (L : zL) (post : zPo), sDep g p = d → 3 * d + 12 ≤ N → deep + d ≤ 20 → oW g fr c f F I L → sR g p → oPre g (sOd g fr c F) d I L → (∀ (I' : zI) (L' : zL), oPre g (sOd g fr c F) d I' L' → I' 26 p = 1 → oFr g d (3 * deep) I L I' L' → post none I' L' (zR1 q)) → zC G N 93 [.ref 0, .int (nI p), .int (nI f), .int (nI deep)] I L (zR1 q) post
section
variable {G : zG} {n : Nat} {I : zI} {L : zL} {q : zq} {post : zPo} {g : zg} {c : sC} {w : uW} {fr : Nat → Nat} {f : Nat} {F : zfo}
theorem od_child {d p ch N deep : Nat} (ih : ∀ d', d' < d → OdP G g fr c f F q d') (hd : sDep g p = d) (hr : sR g ch) (hc : sDep g ch < d) (hN : 3 * d + 9 ≤ N) (hdeep : deep + d ≤ 20) (hw : oW g fr c f F I L) (hq : oQ g (sOd g fr c F) d p I L) (h : ∀ (I' : zI) (L' : zL), oW g fr c f F I' L' → oQ g (sOd g fr c F) d p I' L' → (∀ e, e < 3 → L' 25 (3 * ch + e) = lN (sOd g fr c F ch e)) → (∀ e, e < 3 → L' 25 (3 * p + e) = L 25 (3 * p + e)) → oBr g d p (3 * deep + 3) (3 * deep + 3) I L I' L' → post none I' L' (zR1 q)) : zC G N 93 [.ref 0, .int (nI ch), .int (nI f), .int (nI (deep + 1))] I L (zR1 q) post := by
  refine ih (sDep g ch) hc ch N (deep + 1) I L post rfl (by omega) (by omega) hw hr ⟨hq.1, fun x hx h1 hdx => hq.2 x hx (fun z => by subst z; omega) h1 (by omega)⟩ fun I' L' hp' h1' hb' => ?_
  have hlt := sR_lt hw.1.1 hr
  refine h I' L' (oW_of hw hb'.2.2.2.1 (hb'.2.2.2.2 13 (by decide) (by decide) (by decide))) ⟨hp'.1, fun x hx hxp h1 hdx => ?_⟩ (hp'.2 ch hlt h1' (Nat.le_refl _)) (fun e he => ?_) ⟨fun x hx => ⟨(hb'.1 x (by omega)).1, fun _ e he => ?_⟩, hb'.2.1, ⟨fun k hk => hb'.2.2.1.1 k (by omega), fun k hk => hb'.2.2.1.2 k (by omega)⟩, hb'.2.2.2⟩
  · by_cases z : sDep g x ≤ sDep g ch
    · exact hp'.2 x hx h1 z
    · intro e he
      have z2 := hb'.1 x (by omega)
      rw [z2.1] at h1
      rw [z2.2 e he]
      exact hq.2 x hx hxp h1 hdx e he
  · exact (hb'.1 p (by omega)).2 e he
  · exact (hb'.1 x (by omega)).2 e he
/-- the loop that adds a weighted position's odds to the sums -/
theorem lN_acc (a w x : Nat) : lN a + lN w * lN x = lN (a + w * x) := by rw [lN_mul, lN_add]
theorem od_box {d p N deep : Nat} (ih : ∀ d', d' < d → OdP G g fr c f F q d') (hd : sDep g p = d) (hr : sR g p) (hwk : sWork g p = g 8) (hN : 3 * d + 10 ≤ N) (hdeep : deep + d ≤ 20) (hw : oW g fr c f F I L) (hall : cAll c) (hq : oQ g (sOd g fr c F) d p I L) (h0 : ∀ e, e < 3 → L 25 (3 * p + e) = 0) (h : ∀ (I' : zI) (L' : zL), oW g fr c f F I' L' → oQ g (sOd g fr c F) d p I' L' → (∀ e, e < 3 → L' 25 (3 * p + e) = lN (sOB g fr c (sOd g fr c F) p e)) → oBr g d p (3 * deep) (3 * deep) I L I' L' → post none I' L' (zR1 q)) : zC G N 94 [.ref 0, .int (nI p), .int (nI f), .int (nI deep)] I L (zR1 q) post := by
  obtain ⟨hg, hm, hfr, hc, hF⟩ := id hw
  have h8 := hg.1.2.2.2.2.2.2.2.2
  have hp := sR_ok hg.1 hr
  have hp1 := hp.1
  have hmm := sMM_pos hg.1
  obtain ⟨b1, b2, b3, b4⟩ := gR_box hg.1 hr
  have hbp := sR_ok hg.1 b1
  have hb1 := hbp.1
  have hd1 : 1 ≤ d := by
    obtain ⟨m, hm2⟩ := sCan_some hg.1 (p := p) (by omega)
    have := sDep_lt hg.1 hm2
    omega
  obtain ⟨N, rfl⟩ : ∃ N', N = N' + 10 := ⟨N - 10, by omega⟩
  have e3 : (3 : Int32) * nI deep = nI (3 * deep) := pk_mul 3 deep
  have ep : (3 : Int32) * nI p = nI (3 * p) := pk_mul 3 p
  have hwb : ∀ m, m < sMM g → sWt g fr c p m ≤ 10000 := fun m hm2 => by
    unfold sWt
    split
    · split
      · exact (cAll_bd hall (by omega)).1
      · have := (hfr (min 20 (sStn g (sBox g p))) (by have := Nat.min_le_left 20 (sStn g (sBox g p)); omega)).2
        omega
    · omega
  have hsb : ∀ n, n ≤ sMM g → sSum (sWt g fr c p) n ≤ 10000 * n := by
    intro n
    induction n with
    | zero => exact fun _ => Nat.le_refl _
    | succ n ihn =>
      intro hn
      have a := ihn (by omega)
      have b := hwb n (by omega)
      show sSum (sWt g fr c p) n + sWt g fr c p n ≤ 10000 * (n + 1)
      omega
  -- dividing
  have fin : ∀ (I' : zI) (L' : zL), oW g fr c f F I' L' → oQ g (sOd g fr c F) d p I' L' → (∀ e, e < 3 → L' 25 (3 * p + e) = 0) → (∀ e, e < 3 → L' 27 (3 * deep + e) = lN (sSum (fun m => sWt g fr c p m * sOd g fr c F (sBeh g p (sMv g p m)) e) (sMM g))) → oBr g d p (3 * deep) (3 * deep) I L I' L' → zQ G 94 (N + 9) post 191 [some (.ref 0), some (.int (nI p)), some (.int (nI f)), some (.int (nI deep)), some (.int (nI (sBox g p))), some (.int (nI (sSum (sWt g fr c p) (sMM g)))), some (.int (nI (3 * deep))), none, none, none, none] [] I' L' (zR1 q) := by
    intro I' L' hw' hq' h5 h7 hb
    have hsl := hsb (sMM g) (Nat.le_refl _)
    refine b94_191 ?_
    refine pk_ne (sSum (sWt g fr c p) (sMM g)) 0 (fun z => b94_209 ?_) (fun z => ?_) rfl rfl (by omega) (by omega)
    · have key : ∀ j i : Nat, i + j = 3 → zQ G 94 (N + 9) post 212 [some (.ref 0), some (.int (nI p)), some (.int (nI f)), some (.int (nI deep)), some (.int (nI (sBox g p))), some (.int (nI (sSum (sWt g fr c p) (sMM g)))), some (.int (nI (3 * deep))), some (.int (nI i)), none, none, none] [] I' (lSet L' 25 (3 * p) i fun e => lN (sOB g fr c (sOd g fr c F) p e)) (zR1 q) := by
        intro j
        induction j with
        | zero =>
          intro i hi
          have e : i = 3 := by omega
          subst e
          refine b94_212 (pk_le 3 3 (fun _ => b94_254 ?_) (fun z => absurd z (by omega)) rfl rfl (by omega) (by omega))
          exact h I' _ (oW_of hw' (fun _ _ => rfl) (lSet_ne (by decide))) (oQ_5 _ _ (by omega) hq') (fun e he => lSet_in he) (oBr_tr hb (oBr_5 _ _ _ _ (by omega)))
        | succ j ihj =>
          intro i hi
          have qq := ihj (i + 1) (by omega)
          have e1 : (3 : Int32) * nI p + nI i = nI (3 * p + i) := by rw [ep, nI_add]
          have e2 : nI (3 * deep) + nI i = nI (3 * deep + i) := nI_add _ _
          have i1 : vp_in ((3 : Int32) * nI p + nI i) 59049 := by rw [e1]; exact vp_in_nI (by omega) (by decide)
          have i2 : vp_in (nI (3 * deep) + nI i) 132 := by rw [e2]; exact vp_in_nI (by omega) (by decide)
          have el : (nI (sSum (sWt g fr c p) (sMM g))).toInt64 = lN (sSum (sWt g fr c p) (sMM g)) := nI_l (by omega)
          have ev : lSet L' 25 (3 * p) i (fun e => lN (sOB g fr c (sOd g fr c F) p e)) 27 (nI (3 * deep) + nI i).toNatClampNeg / (nI (sSum (sWt g fr c p) (sMM g))).toInt64 = lN (sOB g fr c (sOd g fr c F) p i) := by
            have hle : sSum (fun m => sWt g fr c p m * sOd g fr c F (sBeh g p (sMv g p m)) i) (sMM g) ≤ 1000000000 * sSum (sWt g fr c p) (sMM g) := sSum_wb (fun m => sOd_le g fr c F _ i) _
            rw [e2, nI_clamp (by omega), lSet_ne (by decide), h7 i (by omega), el, pk_lDiv (by omega) (by omega) (by omega)]
            unfold sOB
            rw [if_neg z]
          refine b94_212 (pk_le 3 i (fun z2 => absurd z2 (by omega)) (fun _ => pk_le (sSum (sWt g fr c p) (sMM g)) 0 (fun z2 => absurd z2 (by omega)) (fun _ => And.intro i2 (And.intro ?_ (And.intro i1 ?_))) rfl rfl (by omega) (by omega)) rfl rfl (by omega) (by omega))
          · show ¬ (nI (sSum (sWt g fr c p) (sMM g))).toInt64 = 0
            rw [el]
            exact fun w => z ((pk_lEQ (b := 0) (by omega) (by omega)).mp w)
          · show zP G 94 (N + 9) zNN zNN post 212 _ [] zNN I' (zup (lSet L' 25 (3 * p) i fun e => lN (sOB g fr c (sOd g fr c F) p e)) 25 ((3 : Int32) * nI p + nI i).toNatClampNeg (lSet L' 25 (3 * p) i (fun e => lN (sOB g fr c (sOd g fr c F) p e)) 27 (nI (3 * deep) + nI i).toNatClampNeg / (nI (sSum (sWt g fr c p) (sMM g))).toInt64)) (zR1 q)
            rw [ev, e1, nI_clamp (by omega), lSet_s L' 25 (3 * p) i fun e => lN (sOB g fr c (sOd g fr c F) p e)]
            rw [← nI_1] at qq
            exact qq
      have qq := key 3 0 (by omega)
      rw [lSet_0] at qq
      exact qq
    · have e1 : (3 : Int32) * nI p + 0 = nI (3 * p) := by rw [ep, show (0 : Int32) = nI 0 from rfl, nI_add]; rfl
      have i1 : vp_in ((3 : Int32) * nI p + 0) 59049 := by rw [e1]; exact vp_in_nI (by omega) (by decide)
      refine And.intro i1 (b94_209 (b94_212 (pk_le 3 0 (fun z2 => absurd z2 (by omega)) (fun _ => pk_le (sSum (sWt g fr c p) (sMM g)) 0 (fun _ => b94_254 ?_) (fun z2 => absurd z2 (by omega)) rfl rfl (by omega) (by omega)) rfl rfl (by omega) (by omega))))
      show post none I' (zup L' 25 ((3 : Int32) * nI p + 0).toNatClampNeg 1000000000) (zR1 q)
      have es : zup L' 25 ((3 : Int32) * nI p + 0).toNatClampNeg 1000000000 = lSet L' 25 (3 * p) 1 fun _ => 1000000000 := by
        rw [e1, nI_clamp (by omega)]
        have a := lSet_s L' 25 (3 * p) 0 fun _ => (1000000000 : Int64)
        rw [lSet_0] at a
        exact a
      rw [es]
      refine h I' _ (oW_of hw' (fun _ _ => rfl) (lSet_ne (by decide))) (oQ_5 _ _ (by omega) hq') (fun e he => ?_) (oBr_tr hb (oBr_5 _ _ _ _ (by omega)))
      unfold sOB
      rw [if_pos z]
      by_cases z2 : e = 0
      · subst z2
        rw [if_pos rfl, lSet_in (by omega)]
        rfl
      · rw [if_neg z2, lSet_out (by omega), h5 e he]
        rfl
  -- the moves
  have moves : ∀ j i : Nat, i + j = sMM g → ∀ (I' : zI) (L' : zL), oW g fr c f F I' L' → oQ g (sOd g fr c F) d p I' L' → (∀ e, e < 3 → L' 25 (3 * p + e) = 0) → (∀ e, e < 3 → L' 27 (3 * deep + e) = lN (sSum (fun m => sWt g fr c p m * sOd g fr c F (sBeh g p (sMv g p m)) e) i)) → oBr g d p (3 * deep) (3 * deep) I L I' L' → zQ G 94 (N + 9) post 44 [some (.ref 0), some (.int (nI p)), some (.int (nI f)), some (.int (nI deep)), some (.int (nI (sBox g p))), some (.int (nI (sSum (sWt g fr c p) i))), some (.int (nI (3 * deep))), some (.int (nI i)), none, none, none] [] I' L' (zR1 q) := by
    intro j
    induction j with
    | zero =>
      intro i hi I' L' hw' hq' h5 h7 hb
      have e : i = sMM g := by omega
      subst e
      refine b94_44 (c_moveMany hw'.1 (pk_le (sMM g) (sMM g) (fun _ => zP_lv (by exact ⟨rfl, rfl, rfl, rfl, rfl, rfl, rfl, trivial⟩) (fin I' L' hw' hq' h5 h7 hb)) (fun z => absurd z (by omega)) rfl rfl (by omega) (by omega)))
    | succ j ihj =>
      intro i hi I' L' hw' hq' h5 h7 hb
      have hg' := hw'.1
      have hc' := hw'.2.2.2.1
      have hi1 : i < sMM g := by omega
      have hwi := hwb i hi1
      have hk0 : 9 * sBox g p + i < 177147 := by omega
      have next : ∀ (I2 : zI) (L2 : zL), oW g fr c f F I2 L2 → oQ g (sOd g fr c F) d p I2 L2 → (∀ e, e < 3 → L2 25 (3 * p + e) = 0) → (∀ e, e < 3 → L2 27 (3 * deep + e) = lN (sSum (fun m => sWt g fr c p m * sOd g fr c F (sBeh g p (sMv g p m)) e) (i + 1))) → oBr g d p (3 * deep) (3 * deep) I L I2 L2 → zQ G 94 (N + 9) post 185 [some (.ref 0), some (.int (nI p)), some (.int (nI f)), some (.int (nI deep)), some (.int (nI (sBox g p))), some (.int (nI (sSum (sWt g fr c p) (i + 1)))), some (.int (nI (3 * deep))), some (.int (nI i)), none, none, none] [] I2 L2 (zR1 q) := by
        intro I2 L2 x1 x2 x3 x4 x5
        have qq := ihj (i + 1) (by omega) I2 L2 x1 x2 x3 x4 x5
        rw [← nI_1] at qq
        exact b94_185 qq
      -- with the weight
      have p100 : ∀ x : Int32, x = nI (sWt g fr c p i) → zQ G 94 (N + 9) post 100 [some (.ref 0), some (.int (nI p)), some (.int (nI f)), some (.int (nI deep)), some (.int (nI (sBox g p))), some (.int (nI (sSum (sWt g fr c p) i))), some (.int (nI (3 * deep))), some (.int (nI i)), none, none, none] [.int x] I' L' (zR1 q) := by
        intro x hx
        subst hx
        refine b94_100 (pk_ne (sWt g fr c p i) 0 (fun z => b94_110 ?_) (fun z => ?_) rfl rfl (by omega) (by omega))
        · have hcb := (sHas_lt hg.1 (sWt_can z)).2
          have hcan := sMv_can hg.1 hcb
          have hdl := sDep_lt hg.1 hcan
          have hrn := sR_step hr (by omega) hcan
          have hqn := sR_lt hg.1 hrn
          have hsm := sMv_ok hg.1 (p := p) hi1
          refine c_moveOf hg' hp1 (by omega) ?_
          rw [hsm.1]
          refine c_behind hg' hp hcan ?_
          show zC G (N + 9) 93 [.ref 0, .int (nI (sBeh g p (sMv g p i))), .int (nI f), .int (nI deep + 1)] I' L' (zR1 q) _
          rw [nI_1]
          refine od_child ih hd hrn (by omega) (by omega) hdeep hw' hq' fun I2 L2 y1 y2 y3 y4 y5 => ?_
          have y7 : ∀ e, e < 3 → L2 27 (3 * deep + e) = lN (sSum (fun m => sWt g fr c p m * sOd g fr c F (sBeh g p (sMv g p m)) e) i) := fun e he => (y5.2.2.1.1 _ (by omega)).trans (h7 e he)
          have add : ∀ j k : Nat, k + j = 3 → zQ G 94 (N + 9) post 137 [some (.ref 0), some (.int (nI p)), some (.int (nI f)), some (.int (nI deep)), some (.int (nI (sBox g p))), some (.int (nI (sSum (sWt g fr c p) i))), some (.int (nI (3 * deep))), some (.int (nI i)), some (.int (nI (sWt g fr c p i))), some (.int (nI (sBeh g p (sMv g p i)))), some (.int (nI k))] [] I2 (lSet L2 27 (3 * deep) k fun e => lN (sSum (fun m => sWt g fr c p m * sOd g fr c F (sBeh g p (sMv g p m)) e) (i + 1))) (zR1 q) := by
            intro j
            induction j with
            | zero =>
              intro k hk
              have e : k = 3 := by omega
              subst e
              refine b94_137 (pk_le 3 3 (fun _ => b94_178 ?_) (fun z => absurd z (by omega)) rfl rfl (by omega) (by omega))
              have qq := next I2 _ (oW_of y1 (fun _ _ => rfl) (lSet_ne (by decide))) (oQ_7 _ _ y2) (fun e he => by rw [lSet_ne (by decide), y4 e he, h5 e he]) (fun e he => lSet_in he) (oBr_tr hb (oBr_tr (oBr_le y5 (by omega) (by omega)) (oBr_7 _ _ _ _ (Nat.le_refl _))))
              rw [show sSum (sWt g fr c p) (i + 1) = sSum (sWt g fr c p) i + sWt g fr c p i from rfl, ← nI_add] at qq
              exact zP_lv (by exact ⟨rfl, rfl, rfl, rfl, rfl, rfl, rfl, rfl, trivial⟩) qq
            | succ j ihk =>
              intro k hk
              have qq := ihk (k + 1) (by omega)
              have e2 : nI (3 * deep) + nI k = nI (3 * deep + k) := nI_add _ _
              have i2 : vp_in (nI (3 * deep) + nI k) 132 := by rw [e2]; exact vp_in_nI (by omega) (by decide)
              have e1 : (3 : Int32) * nI (sBeh g p (sMv g p i)) + nI k = nI (3 * sBeh g p (sMv g p i) + k) := by rw [show (3 : Int32) = nI 3 from rfl, pk_mul, nI_add]
              have i1 : vp_in ((3 : Int32) * nI (sBeh g p (sMv g p i)) + nI k) 59049 := by rw [e1]; exact vp_in_nI (by omega) (by decide)
              have ev : lSet L2 27 (3 * deep) k (fun e => lN (sSum (fun m => sWt g fr c p m * sOd g fr c F (sBeh g p (sMv g p m)) e) (i + 1))) 27 (nI (3 * deep) + nI k).toNatClampNeg + (nI (sWt g fr c p i)).toInt64 * lSet L2 27 (3 * deep) k (fun e => lN (sSum (fun m => sWt g fr c p m * sOd g fr c F (sBeh g p (sMv g p m)) e) (i + 1))) 25 ((3 : Int32) * nI (sBeh g p (sMv g p i)) + nI k).toNatClampNeg = lN (sSum (fun m => sWt g fr c p m * sOd g fr c F (sBeh g p (sMv g p m)) k) (i + 1)) := by
                rw [e2, e1, nI_clamp (by omega), nI_clamp (by omega), lSet_out (by omega), lSet_ne (by decide), y7 k (by omega), y3 k (by omega), nI_l (by omega), lN_acc]
                rfl
              refine b94_137 (pk_le 3 k (fun z => absurd z (by omega)) (fun _ => And.intro ⟨rfl, rfl⟩ (And.intro i2 (And.intro i1 (And.intro i2 ?_)))) rfl rfl (by omega) (by omega))
              show zP G 94 (N + 9) zNN zNN post 137 _ [] zNN I2 (zup (lSet L2 27 (3 * deep) k fun e => lN (sSum (fun m => sWt g fr c p m * sOd g fr c F (sBeh g p (sMv g p m)) e) (i + 1))) 27 (nI (3 * deep) + nI k).toNatClampNeg (lSet L2 27 (3 * deep) k (fun e => lN (sSum (fun m => sWt g fr c p m * sOd g fr c F (sBeh g p (sMv g p m)) e) (i + 1))) 27 (nI (3 * deep) + nI k).toNatClampNeg + (nI (sWt g fr c p i)).toInt64 * lSet L2 27 (3 * deep) k (fun e => lN (sSum (fun m => sWt g fr c p m * sOd g fr c F (sBeh g p (sMv g p m)) e) (i + 1))) 25 ((3 : Int32) * nI (sBeh g p (sMv g p i)) + nI k).toNatClampNeg)) (zR1 q)
              rw [ev, e2, nI_clamp (by omega), lSet_s L2 27 (3 * deep) k fun e => lN (sSum (fun m => sWt g fr c p m * sOd g fr c F (sBeh g p (sMv g p m)) e) (i + 1))]
              rw [← nI_1] at qq
              exact qq
          have qq := add 3 0 (by omega)
          rw [lSet_0] at qq
          exact qq
        · have es : sSum (sWt g fr c p) (i + 1) = sSum (sWt g fr c p) i := by show _ + sWt g fr c p i = _; rw [z]; rfl
          have qq := next I' L' hw' hq' h5 (fun e he => by
            rw [h7 e he]
            congr 1
            show _ = sSum (fun m => sWt g fr c p m * sOd g fr c F (sBeh g p (sMv g p m)) e) i + sWt g fr c p i * sOd g fr c F (sBeh g p (sMv g p i)) e
            rw [z, Nat.zero_mul]
            rfl) hb
          rw [es] at qq
          exact zP_lv (by exact ⟨rfl, rfl, rfl, rfl, rfl, rfl, rfl, rfl, trivial⟩) qq
      refine b94_44 (c_moveMany hg' (pk_le (sMM g) i (fun z => absurd z (by omega)) (fun _ => c_hasBeads hg' hbp (by omega) (zbo_ne (fun z => b94_68 (And.intro (vp_in_nI hb1 (by decide)) ?_)) (fun z => p100 0 ?_))) rfl rfl (by omega) (by omega)))
      · have eop : I' 4 (nI (sBox g p)).toNatClampNeg = zbo (c.2.1 (sBox g p)) := by rw [nI_clamp (by omega)]; exact hc'.2.1 _ hb1
        show (I' 4 (nI (sBox g p)).toNatClampNeg = 0 → _) ∧ (¬ I' 4 (nI (sBox g p)).toNatClampNeg = 0 → _)
        rw [eop]
        refine zbo_eq (fun z2 => b94_94 (c_freshOf hg' hw'.2.2.1 hbp (p100 _ ?_))) (fun z2 => ?_)
        · unfold sWt
          rw [if_pos z, if_neg (by rw [z2]; exact Bool.false_ne_true)]
        · have e9 : (9 : Int32) * nI (sBox g p) + nI i = nI (9 * sBox g p + i) := by rw [show (9 : Int32) = nI 9 from rfl, pk_mul, nI_add]
          refine And.intro (by rw [e9]; exact vp_in_nI hk0 (by decide)) (p100 _ ?_)
          rw [e9, nI_clamp (by omega), hc'.1 _ hk0]
          unfold sWt
          rw [if_pos z, if_pos z2]
      · unfold sWt
        rw [if_neg (by rw [z]; exact Bool.false_ne_true)]
        rfl
  -- sums are 0 at first
  have zero : ∀ j i : Nat, i + j = 3 → zQ G 94 (N + 9) post 18 [some (.ref 0), some (.int (nI p)), some (.int (nI f)), some (.int (nI deep)), some (.int (nI (sBox g p))), some (.int 0), some (.int (nI (3 * deep))), some (.int (nI i)), none, none, none] [] I (lSet L 27 (3 * deep) i fun _ => 0) (zR1 q) := by
    intro j
    induction j with
    | zero =>
      intro i hi
      have e : i = 3 := by omega
      subst e
      refine b94_18 (pk_le 3 3 (fun _ => b94_41 ?_) (fun z => absurd z (by omega)) rfl rfl (by omega) (by omega))
      exact moves (sMM g) 0 (by omega) I _ (oW_of hw (fun _ _ => rfl) (lSet_ne (by decide))) (oQ_7 _ _ hq) (fun e he => by rw [lSet_ne (by decide)]; exact h0 e he) (fun e he => lSet_in he) (oBr_7 _ _ _ _ (Nat.le_refl _))
    | succ j ihj =>
      intro i hi
      have qq := ihj (i + 1) (by omega)
      have e2 : nI (3 * deep) + nI i = nI (3 * deep + i) := nI_add _ _
      have i2 : vp_in (nI (3 * deep) + nI i) 132 := by rw [e2]; exact vp_in_nI (by omega) (by decide)
      refine b94_18 (pk_le 3 i (fun z => absurd z (by omega)) (fun _ => And.intro i2 ?_) rfl rfl (by omega) (by omega))
      show zP G 94 (N + 9) zNN zNN post 18 _ [] zNN I (zup (lSet L 27 (3 * deep) i fun _ => 0) 27 (nI (3 * deep) + nI i).toNatClampNeg 0) (zR1 q)
      rw [e2, nI_clamp (by omega), lSet_s L 27 (3 * deep) i fun _ => 0]
      rw [← nI_1] at qq
      exact qq
  refine zin0 rfl rfl rfl (b94_0 (c_boxOf hg hp1 ?_))
  have qq := zero 3 0 (by omega)
  rw [lSet_0, ← e3] at qq
  exact qq
end
