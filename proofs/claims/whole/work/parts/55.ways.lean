-- ===== the reference: all ways =====
def sCat {α : Type} (f : Nat → List α) : Nat → List α
  | 0 => []
  | n + 1 => sCat f n ++ f n
/-- the chance behind a part of a foe -/
def sWc (F : zfo) (ch k : Nat) : Nat := if F.1 = 1 then ch else ch * F.2.2.1 k / sSum F.2.2.1 F.1
/-- all ways that games go: chance and beads in boxes -/
def sWy (g : zg) (fr : Nat → Nat) (rl : zrl) (ru : Option Nat) (F : zfo) : Nat → Nat → Nat → sC → List (Nat × Nat) → Nat → List (Nat × Nat)
  | 0, _, _, _, _, _ => []
  | n + 1, gl, p, c, ds, ch => if gl = 0 then [(ch, 10000 - c.2.2.1 - c.2.2.2.1)] else if sWork g p < 2 then (if sWork g p = g 8 then
      (if sInB (sOpn g fr c (sBox g p)) (sBox g p) = 0 then sWy g fr rl ru F n (gl - 1) (sFirst g) (sPayAll g rl ru 0 ds (some (sBox g p)) (sOpn g fr c (sBox g p))) [] ch
      else sCat (fun m => if (sOpn g fr c (sBox g p)).1 (9 * sBox g p + m) = 0 then [] else sWy g fr rl ru F n gl (sBeh g p (sMv g p m)) (sOpn g fr c (sBox g p)) (ds ++ [(sBox g p, m)]) (ch * (sOpn g fr c (sBox g p)).1 (9 * sBox g p + m) / sInB (sOpn g fr c (sBox g p)) (sBox g p))) (sMM g))
    else sCat (fun k => if F.2.1 k = 102 then sCat (fun m => if sCan g p m = true then sWy g fr rl ru F n gl (sBeh g p m) c ds (sWc F ch k / sSum (sCanW g p) (sMM g)) else []) (sMM g) else sWy g fr rl ru F n gl (sBeh g p (sFMv g F k p)) c ds (sWc F ch k)) F.1)
    else sWy g fr rl ru F n (gl - 1) (sFirst g) (sPayAll g rl ru (sEnd g p) ds none c) [] ch
/-- what is added up: how many, chances, chances by beads, most, fewest -/
abbrev zwa : Type := Nat × Nat × Nat × Nat × Nat
def wAcc (a : zwa) (w : Nat × Nat) : zwa := (a.1 + 1, a.2.1 + w.1, a.2.2.1 + w.1 * w.2, (if a.1 = 0 then w.2 else max a.2.2.2.1 w.2), if a.1 = 0 then w.2 else min a.2.2.2.2 w.2)
section
variable {G : zG} {n : Nat} {I : zI} {L : zL} {q : zq} {post : zPo} {g : zg} {c : sC} {w : uW} {fr : Nat → Nat} {f nr nf : Nat} {F : zfo} {rl : zrl} {ru : Option Nat}
def mWy (a : zwa) (I : zI) (L : zL) : Prop := a.1 ≤ 3000 ∧ I 0 52 = nI a.1 ∧ L 0 53 = lN a.2.1 ∧ L 0 54 = lN a.2.2.1 ∧ a.2.2.2.1 ≤ 10000 ∧ a.2.2.2.2 ≤ 10000 ∧ (a.1 ≠ 0 → I 0 55 = nI a.2.2.2.1 ∧ I 0 56 = nI a.2.2.2.2)
/-- what going through ways may touch -/
def tWy (o k : Nat) : Bool := tC o k || Nat.beq o 21 || Nat.beq o 22 || (Nat.beq o 0 && (Nat.beq k 52 || Nat.beq k 55 || Nat.beq k 56))
def lWy (L L' : zL) : Prop := ∀ o k, ¬ (o = 0 ∧ (k = 53 ∨ k = 54)) → L' o k = L o k
theorem tC_tWy {I' : zI} (h : zFr tC I I') : zFr tWy I I' := fun o k z => h o k (by
  unfold tWy at z
  simp only [Bool.or_eq_false_iff] at z
  exact z.1.1.1)
theorem lWy_tr {L' L'' : zL} (h : lWy L L') (h2 : lWy L' L'') : lWy L L'' := fun o k z => (h2 o k z).trans (h o k z)
theorem mWy_tC {a : zwa} {I' : zI} (h : mWy a I L) (hf : zFr tC I I') : mWy a I' L := ⟨h.1, (hf 0 52 rfl).trans h.2.1, h.2.2.1, h.2.2.2.1, h.2.2.2.2.1, h.2.2.2.2.2.1, fun z => ⟨(hf 0 55 rfl).trans (h.2.2.2.2.2.2 z).1, (hf 0 56 rfl).trans (h.2.2.2.2.2.2 z).2⟩⟩
def wyW (g : zg) (fr : Nat → Nat) (nr : Nat) (rl : zrl) (ru : Option Nat) (f : Nat) (F : zfo) (I : zI) (L : zL) : Prop := mG g I ∧ mPos g I ∧ mF fr I ∧ mFo1 f F I L ∧ mRl nr rl ru I
theorem wyW_of {I' : zI} {L' : zL} (h : wyW g fr nr rl ru f F I L) (hf : zFr tWy I I') (hl : lWy L L') : wyW g fr nr rl ru f F I' L' := by
  obtain ⟨a1, a2, a3, a4, a5⟩ := h
  refine ⟨⟨a1.1, fun k hk => (hf 0 k ((by decide : ∀ k, k < 9 → tWy 0 k = false) k hk)).trans (a1.2 k hk)⟩, mPos_of a2 (zFr_row hf fun _ => rfl) (zFr_row hf fun _ => rfl) (zFr_row hf fun _ => rfl), fun s hs => ⟨(hf 6 s rfl).trans (a3 s hs).1, (a3 s hs).2⟩, ?_, mRl_of a5 (hf 0 18 rfl) (hf 0 22 rfl) (zFr_row hf fun _ => rfl) (zFr_row hf fun _ => rfl) (zFr_row hf fun _ => rfl)⟩
  unfold mFo1
  rw [zFr_row (o := 10) hf fun _ => rfl, zFr_row (o := 11) hf fun _ => rfl, zFr_row (o := 12) hf fun _ => rfl, zFr_row (o := 14) hf fun _ => rfl, show L' 13 = L 13 from funext fun k => hl 13 k (by omega)]
  exact a4
theorem lWy_0 (L : zL) : lWy L L := fun _ _ _ => rfl
/-- what is told behind some ways -/
def wyR (a : zwa) (W : List (Nat × Nat)) (b : Bool) (I : zI) (L : zL) : Prop := if a.1 + W.length ≤ 3000 then b = true ∧ mWy (W.foldl wAcc a) I L else b = false
theorem wAcc_n : ∀ (W : List (Nat × Nat)) (a : zwa), (W.foldl wAcc a).1 = a.1 + W.length
  | [], _ => rfl
  | w :: W, a => by
    have q := wAcc_n W (wAcc a w)
    show (W.foldl wAcc (wAcc a w)).1 = a.1 + (W.length + 1)
    rw [q]
    show a.1 + 1 + W.length = _
    omega
theorem c_endWay {a : zwa} {ch : Nat} (hall : cAll c) (hc : mC c I) (hw : mWy a I L) (h : ∀ (b : Bool) (I' : zI) (L' : zL), wyR a [(ch, 10000 - c.2.2.1 - c.2.2.2.1)] b I' L' → (∀ o k, ¬ (o = 0 ∧ (k = 52 ∨ k = 55 ∨ k = 56)) → I' o k = I o k) → lWy L L' → post (some (.int (zbo b))) I' L' (zR1 q)) : zC G (n + 2) 101 [.ref 0, .long (lN ch)] I L (zR1 q) post := by
  obtain ⟨h3, h52, h53, h54, h55, h56, h7⟩ := id hw
  have hsum : c.2.2.1 + c.2.2.2.1 ≤ 10000 := by unfold cAll at hall; omega
  generalize hB : 10000 - c.2.2.1 - c.2.2.2.1 = B at h
  have hBl : B ≤ 10000 := by omega
  refine zin0 rfl rfl rfl (b101_0 ?_)
  refine pk_ne a.1 3000 (fun z => b101_12 (And.intro rfl ?_)) (fun z => And.intro rfl ?_) h52 rfl (by omega) (by omega)
  · have e52 : I 0 52 + 1 = nI (a.1 + 1) := by rw [h52, nI_1]
    obtain ⟨I1, hI1⟩ : ∃ I1 : zI, I1 = zup I 0 52 (nI (a.1 + 1)) := ⟨_, rfl⟩
    have hc1 : mC c I1 := by rw [hI1]; exact mC_of hc (zup_ne (by decide)) (zup_ne (by decide)) rfl rfl rfl
    show zC G (n + 1) 39 [.ref 0] (zup I 0 52 (I 0 52 + 1)) L (zR1 q) _
    rw [e52, ← hI1]
    refine c_inBoxes hc1 hsum ?_
    rw [hB]
    refine And.intro rfl (And.intro rfl ?_)
    have i52 : I1 0 52 = nI (a.1 + 1) := by rw [hI1, zup_self]
    -- the fewest, and the end
    have last : ∀ (mo : Nat) (I2 : zI), mo = (if a.1 = 0 then B else max a.2.2.2.1 B) → I2 = zup I1 0 55 (nI mo) → ∀ L' : zL, L' = zup (zup L 0 53 (lN (a.2.1 + ch))) 0 54 (lN (a.2.2.1 + ch * B)) → ∀ le : Nat, le = (if a.1 = 0 then B else min a.2.2.2.2 B) → zQ G 101 (n + 1) post 95 [some (.ref 0), some (.long (lN ch)), none, some (.int (nI B))] [.int (nI le), .ref 0] I2 L' (zR1 q) := by
      intro mo I2 hmo hI2 L' hL' le hle
      refine b101_95 (And.intro rfl ?_)
      have mx : max a.2.2.2.1 B ≤ 10000 := Nat.max_le.mpr ⟨h55, hBl⟩
      have mn : min a.2.2.2.2 B ≤ 10000 := Nat.le_trans (Nat.min_le_left _ _) h56
      refine h true (zup I2 0 56 (nI le)) L' ?_ (fun o k hh => ?_) (fun o k hh => ?_)
      · refine (if_pos (show a.1 + [(ch, B)].length ≤ 3000 by show a.1 + 1 ≤ 3000; omega)).mpr ?_
        refine ⟨rfl, by show a.1 + 1 ≤ 3000; omega, ?_, ?_, ?_, ?_, ?_, fun _ => ⟨?_, ?_⟩⟩
        · rw [zup_k (by decide), hI2, zup_k (by decide), i52]; rfl
        · rw [hL', zup_k (by decide), zup_self]; rfl
        · rw [hL', zup_self]; rfl
        · show (if a.1 = 0 then B else max a.2.2.2.1 B) ≤ 10000
          split <;> omega
        · show (if a.1 = 0 then B else min a.2.2.2.2 B) ≤ 10000
          split <;> omega
        · rw [zup_k (by decide), hI2, zup_self, hmo]; rfl
        · rw [zup_self, hle]; rfl
      · rw [hI2, hI1]
        unfold zup
        by_cases d : o = 0
        · rw [if_pos d, if_neg (fun w => hh ⟨d, by omega⟩), if_pos d, if_neg (fun w => hh ⟨d, by omega⟩), if_pos d, if_neg (fun w => hh ⟨d, by omega⟩)]
        · rw [if_neg d, if_neg d, if_neg d]
      · rw [hL']
        unfold zup
        by_cases d : o = 0
        · rw [if_pos d, if_neg (fun w => hh ⟨d, by omega⟩), if_pos d, if_neg (fun w => hh ⟨d, by omega⟩)]
        · rw [if_neg d, if_neg d]
    have eL : zup (zup L 0 53 (L 0 53 + lN ch)) 0 54 (zup L 0 53 (L 0 53 + lN ch) 0 54 + lN ch * (nI B).toInt64) = zup (zup L 0 53 (lN (a.2.1 + ch))) 0 54 (lN (a.2.2.1 + ch * B)) := by
      rw [zup_k (by decide), h53, h54, lN_add, nI_l (by omega), lN_acc]
    -- the most
    have p71 : ∀ mo : Nat, mo = (if a.1 = 0 then B else max a.2.2.2.1 B) → zQ G 101 (n + 1) post 71 [some (.ref 0), some (.long (lN ch)), none, some (.int (nI B))] [.int (nI mo), .ref 0] I1 (zup (zup L 0 53 (lN (a.2.1 + ch))) 0 54 (lN (a.2.2.1 + ch * B))) (zR1 q) := by
      intro mo hmo
      refine b101_71 ?_
      have i522 : zup I1 0 55 (nI mo) 0 52 = nI (a.1 + 1) := i52
      have hL := last mo _ hmo rfl _ rfl
      refine pk_ne (a.1 + 1) 1 (fun z2 => b101_87 ?_) (fun z2 => ?_) i522 rfl (by omega) (by omega)
      · have hh := h7 (by omega)
        have e56 : zup I1 0 55 (nI mo) 0 56 = nI a.2.2.2.2 := by rw [zup_k (by decide), hI1, zup_k (by decide)]; exact hh.2
        have qq := hL (min a.2.2.2.2 B) (by rw [if_neg (by omega)])
        have em : (if nI B < zup I1 0 55 (nI mo) 0 56 then nI B else zup I1 0 55 (nI mo) 0 56) = nI (min a.2.2.2.2 B) := by
          rw [e56]
          by_cases y : B < a.2.2.2.2
          · rw [if_pos ((nI_ltI (by omega) (by omega)).mpr y), Nat.min_eq_right (by omega)]
          · rw [if_neg (fun w => y ((nI_ltI (by omega) (by omega)).mp w)), Nat.min_eq_left (by omega)]
        rw [← em] at qq
        exact qq
      · exact hL B (by rw [if_pos (by omega)])
    refine pk_ne (a.1 + 1) 1 (fun z2 => b101_63 ?_) (fun z2 => ?_) i52 rfl (by omega) (by omega)
    · have hh := h7 (by omega)
      have e55 : I1 0 55 = nI a.2.2.2.1 := by rw [hI1, zup_k (by decide)]; exact hh.1
      have qq := p71 (max a.2.2.2.1 B) (by rw [if_neg (by omega)])
      have em : (if I1 0 55 < nI B then nI B else I1 0 55) = nI (max a.2.2.2.1 B) := by
        rw [e55]
        by_cases y : a.2.2.2.1 < B
        · rw [if_pos ((nI_ltI (by omega) (by omega)).mpr y), Nat.max_eq_right (by omega)]
        · rw [if_neg (fun w => y ((nI_ltI (by omega) (by omega)).mp w)), Nat.max_eq_left (by omega)]
      rw [← em, ← eL] at qq
      exact qq
    · have qq := p71 B (by rw [if_pos (by omega)])
      rw [← eL] at qq
      exact qq
  · refine h false I L ?_ (fun _ _ _ => rfl) (lWy_0 L)
    exact (if_neg (show ¬ a.1 + [(ch, B)].length ≤ 3000 by show ¬ a.1 + 1 ≤ 3000; omega)).mpr rfl
/-- the contract of goWay with so much fuel -/
def WyP (G : zG) (g : zg) (fr : Nat → Nat) (nr : Nat) (rl : zrl) (ru : Option Nat) (f : Nat) (F : zfo) (q : zq) (gs fu : Nat) : Prop := ∀ (gl p N ch : Nat) (c : sC) (ds : List (Nat × Nat)) (es : List (Nat × Nat)) (a : zwa) (I : zI) (L : zL) (post : zPo), gl * 22 + sDep g p < fu → gl ≤ gs → 3 * (gl * 22 + sDep g p) + 14 ≤ N → wyW g fr nr rl ru f F I L → sR g p → cIn g c → mC c I → mU (some es) I → es.length + 1000 * gl + 19 * sDep g p ≤ 20000 → mWy a I L → ch ≤ 1000000000 → ds.length + sDep g p ≤ 20 → (∀ d, d ∈ ds → c.2.1 d.1 = true ∧ sHas g d.1 d.2 = true) → mDr (20 * (gs - gl)) ds I → (∀ (b : Bool) (I' : zI) (L' : zL), wyR a (sWy g fr rl ru F fu gl p c ds ch) b I' L' → mC c I' → mU (some es) I' → zFr tWy I I' → lWy L L' → (∀ j, j < 20 * (gs - gl) + ds.length → I' 21 j = I 21 j ∧ I' 22 j = I 22 j) → post (some (.int (zbo b))) I' L' (zR1 q)) → zC G N 100 [.ref 0, .int (nI (gs - gl)), .int (nI gs), .int (nI p), .int (nI ds.length), .long (lN ch), .int (nI f)] I L (zR1 q) post
theorem wyR_f {a : zwa} {W X : List (Nat × Nat)} {I' : zI} {L' : zL} (h : wyR a W false I L) : wyR a (W ++ X) false I' L' := by
  have hl : ¬ a.1 + W.length ≤ 3000 := fun z => by
    unfold wyR at h
    rw [if_pos z] at h
    cases h.1
  exact (if_neg (show ¬ a.1 + (W ++ X).length ≤ 3000 by rw [List.length_append]; omega)).mpr rfl
theorem wyR_t {a : zwa} {W : List (Nat × Nat)} (h : wyR a W true I L) : a.1 + W.length ≤ 3000 ∧ mWy (W.foldl wAcc a) I L := by
  by_cases z : a.1 + W.length ≤ 3000
  · unfold wyR at h
    rw [if_pos z] at h
    exact ⟨z, h.2⟩
  · unfold wyR at h
    rw [if_neg z] at h
    cases h
theorem wyR_app {a : zwa} {W X : List (Nat × Nat)} {b : Bool} (hW : a.1 + W.length ≤ 3000) (h : wyR (W.foldl wAcc a) X b I L) : wyR a (W ++ X) b I L := by
  have e := wAcc_n W a
  unfold wyR at h ⊢
  rw [e] at h
  rw [List.length_append, List.foldl_append]
  by_cases z : a.1 + W.length + X.length ≤ 3000
  · rw [if_pos z] at h
    rw [if_pos (by omega)]
    exact h
  · rw [if_neg z] at h
    rw [if_neg (by omega)]
    exact h
theorem wyR_0 {a : zwa} (h : mWy a I L) : wyR a [] true I L := (if_pos (show a.1 + ([] : List (Nat × Nat)).length ≤ 3000 from h.1)).mpr ⟨rfl, h⟩
theorem wyR_nil {a : zwa} {W : List (Nat × Nat)} {b : Bool} (h : wyR a W b I L) : wyR a (W ++ []) b I L := by rw [List.append_nil]; exact h
theorem mU_len {es : List (Nat × Nat)} (h : mU (some es) I) : I 0 36 = nI es.length := h.2.1
def sHw (g : zg) (p : Nat) (em : Option Nat) : Nat := match em with
  | some _ => 0
  | none => sEnd g p
/-- the end of a game, in ways -/
theorem wy_end {gs fu gl p N ch : Nat} {ds es : List (Nat × Nat)} {a : zwa} {em : Option Nat} (ih : WyP G g fr nr rl ru f F q gs fu) (hgs : gs ≤ 3) (hgl : 1 ≤ gl ∧ gl ≤ gs) (hfu : (gl - 1) * 22 + 20 < fu) (hN : 3 * ((gl - 1) * 22 + 20) + 16 ≤ N) (hw : wyW g fr nr rl ru f F I L) (hr : sR g p) (hin : cIn g c) (hc : mC c I) (hu : mU (some es) I) (hroom : es.length + 418 + 1000 * (gl - 1) + 380 ≤ 20000) (ha : mWy a I L) (hch : ch ≤ 1000000000) (hlen : ds.length ≤ 20) (hd : ∀ d, d ∈ ds → c.2.1 d.1 = true ∧ sHas g d.1 d.2 = true) (hdr : mDr (20 * (gs - gl)) ds I) (hem : ∀ b, em = some b → c.2.1 b = true) (hov : em = none → 2 ≤ sWork g p) (h : ∀ (b : Bool) (I' : zI) (L' : zL), wyR a (sWy g fr rl ru F fu (gl - 1) (sFirst g) (sPayAll g rl ru (sHw g p em) ds em c) [] ch) b I' L' → mC c I' → mU (some es) I' → zFr tWy I I' → lWy L L' → (∀ j, j < 20 * (gs - gl) + 20 → I' 21 j = I 21 j ∧ I' 22 j = I 22 j) → post (some (.int (zbo b))) I' L' (zR1 q)) : zC G N 102 [.ref 0, .int (nI (gs - gl)), .int (nI gs), .int (nI p), .int (nI ds.length), .int (zon em), .long (lN ch), .int (nI f)] I L (zR1 q) post := by
  obtain ⟨hg, hm, hfr, hF, hrl⟩ := id hw
  have hgo := hg.1
  have hdf := sDep_first g hgo
  have hel := sEnd_le g p
  obtain ⟨N, rfl⟩ : ∃ N', N = N' + 9 := ⟨N - 9, by omega⟩
  have hpok := pInv_pok hgo hin hd
  have hemp : ∀ b, em = some b → pOk g b := fun b hb => sR_ok hgo (hin.2.1 b (hem b hb)).1
  have e20 : (20 : Int32) * nI (gs - gl) = nI (20 * (gs - gl)) := pk_mul 20 (gs - gl)
  have h36 := mU_len hu
  -- behind the pay
  have paid : ∀ (I1 : zI) (w1 : uW), mC (sPayAll g rl ru (sHw g p em) ds em c) I1 → mU w1 I1 → uSt (some es) c 418 w1 (sPayAll g rl ru (sHw g p em) ds em c) → zFr tC I I1 → ∀ K : zPo, (∀ (b : Bool) (I2 : zI) (L2 : zL), (∀ post34 : zPo, (∀ (I3 : zI) (L3 : zL), post (some (.int (zbo b))) I3 L3 (zR1 q) → post34 none I3 L3 (zR1 q)) → zC G (N + 8) 34 [.ref 0, .int (nI es.length)] I2 L2 (zR1 q) post34) → K (some (.int (zbo b))) I2 L2 (zR1 q)) → zC G (N + 8) 100 [.ref 0, .int (nI (gs - gl) + 1), .int (nI gs), .int (nI (sFirst g)), .int 0, .long (lN ch), .int (nI f)] I1 L (zR1 q) K := by
    intro I1 w1 hc1 hu1 hs1 hf1 K hK
    cases w1 with
    | none => exact hs1.elim
    | some es1 =>
      obtain ⟨fs, e1, e2, e3, e4⟩ := hs1
      have hin1 := (sPayAll_in hgo (rl := rl) (ru := ru) (e := sHw g p em) hin hd hem).1
      have hlen1 : es1.length = es.length + fs.length := by rw [e1, List.length_append]
      have eg : nI (gs - gl) + 1 = nI (gs - (gl - 1)) := by rw [nI_1]; congr 1; omega
      rw [eg]
      show zC G (N + 8) 100 [.ref 0, .int (nI (gs - (gl - 1))), .int (nI gs), .int (nI (sFirst g)), .int (nI ([] : List (Nat × Nat)).length), .long (lN ch), .int (nI f)] I1 L (zR1 q) _
      refine ih (gl - 1) (sFirst g) (N + 8) ch (sPayAll g rl ru (sHw g p em) ds em c) [] es1 a I1 L _ (by omega) (by omega) (by omega) (wyW_of hw (tC_tWy hf1) (lWy_0 L)) (sR_first g) hin1 hc1 hu1 (by omega) (mWy_tC ha hf1) hch (by show 0 + sDep g (sFirst g) ≤ 20; omega) (fun d hx => by cases hx) (fun j d hj => by cases hj) fun b I2 L2 r2 hc2 hu2 hf2 hl2 hk2 => hK b I2 L2 fun post34 hp34 => ?_
      rw [e1] at hu2
      refine c_takeBack hu2 hc2 e4 (by rw [List.length_append]; omega) fun I3 hu3 hc3 hf3 => ?_
      have hf13 : zFr tWy I I3 := zFr_tr (tC_tWy hf1) (zFr_tr hf2 (tC_tWy hf3))
      have hR3 : wyR a (sWy g fr rl ru F fu (gl - 1) (sFirst g) (sPayAll g rl ru (sHw g p em) ds em c) [] ch) b I3 L2 := by
        unfold wyR at r2 ⊢
        split at r2
        · next z => rw [if_pos z]; exact ⟨r2.1, mWy_tC r2.2 hf3⟩
        · next z => rw [if_neg z]; exact r2
      rw [e3] at hc3
      refine hp34 I3 L2 (h b I3 L2 hR3 hc3 hu3 hf13 hl2 fun j hj => ?_)
      have y := hk2 j (by show j < 20 * (gs - (gl - 1)) + 0; omega)
      exact ⟨(hf3 21 j rfl).trans (y.1.trans (hf1 21 j rfl)), (hf3 22 j rfl).trans (y.2.trans (hf1 22 j rfl))⟩
  have hsl : sHw g p em < 3 := by unfold sHw; split <;> omega
  refine zin0 rfl rfl rfl (b102_0 ?_)
  have rest : ∀ K : zPo, (∀ (I1 : zI) (w1 : uW), mC (sPayAll g rl ru (sHw g p em) ds em c) I1 → mU w1 I1 → uSt (some es) c 418 w1 (sPayAll g rl ru (sHw g p em) ds em c) → zFr tC I I1 → K none I1 L (zR1 q)) → zC G (N + 8) 88 [.ref 0, .int ((20 : Int32) * nI (gs - gl)), .int (nI ds.length), .int (zon em), .int (nI (sHw g p em))] I L (zR1 q) K := by
    intro K hK
    rw [e20]
    exact c_payAll hg hrl hsl hlen (by omega) hdr hpok hemp hin.1 hc hu (show es.length + 418 ≤ 20000 by omega) hK
  have tail : ∀ (I1 : zI) (w1 : uW), mC (sPayAll g rl ru (sHw g p em) ds em c) I1 → mU w1 I1 → uSt (some es) c 418 w1 (sPayAll g rl ru (sHw g p em) ds em c) → zFr tC I I1 → mG g I1 := fun I1 _ _ _ _ hf1 => mG_tC hg hf1
  cases em with
  | some b =>
    have hb1 := (hemp b rfl).1
    refine c_endOf_stuck (by omega) (rest _ fun I1 w1 hc1 hu1 hs1 hf1 => c_first (tail I1 w1 hc1 hu1 hs1 hf1) ?_)
    refine paid I1 w1 hc1 hu1 hs1 hf1 _ fun b I2 L2 h34 => ?_
    show zC G (N + 8) 34 [.ref 0, .int (I 0 36)] I2 L2 (zR1 q) _
    rw [h36]
    exact h34 _ fun I3 L3 hp => And.intro (zbo_nar b) hp
  | none =>
    refine c_endOf hg hm hr (hov rfl) (rest _ fun I1 w1 hc1 hu1 hs1 hf1 => c_first (tail I1 w1 hc1 hu1 hs1 hf1) ?_)
    refine paid I1 w1 hc1 hu1 hs1 hf1 _ fun b I2 L2 h34 => ?_
    show zC G (N + 8) 34 [.ref 0, .int (I 0 36)] I2 L2 (zR1 q) _
    rw [h36]
    exact h34 _ fun I3 L3 hp => And.intro (zbo_nar b) hp
theorem wyR_tC {a : zwa} {W : List (Nat × Nat)} {b : Bool} {I' : zI} (h : wyR a W b I L) (hf : zFr tC I I') : wyR a W b I' L := by
  unfold wyR at h ⊢
  split at h
  · next z => rw [if_pos z]; exact ⟨h.1, mWy_tC h.2 hf⟩
  · next z => rw [if_neg z]; exact h
theorem mWy_fr {a : zwa} {I' : zI} (h : mWy a I L) (h0 : I' 0 = I 0) : mWy a I' L := by
  unfold mWy
  rw [h0]
  exact h
theorem sCat_le {α : Type} (f : Nat → List α) (i : Nat) : ∀ j, ∃ X, sCat f (i + j) = sCat f i ++ X
  | 0 => ⟨[], (List.append_nil _).symm⟩
  | j + 1 => by
    obtain ⟨X, hX⟩ := sCat_le f i j
    exact ⟨X ++ f (i + j), by rw [← List.append_assoc, ← hX]; rfl⟩
/-- the chest's turn, in ways -/
theorem wy_box {gs fu gl p N ch : Nat} {ds es : List (Nat × Nat)} {a : zwa} (ih : WyP G g fr nr rl ru f F q gs fu) (hgs : gs ≤ 3) (hgl : 1 ≤ gl ∧ gl ≤ gs) (hfu : gl * 22 + sDep g p < fu + 1) (hN : 3 * (gl * 22 + sDep g p) + 13 ≤ N) (hw : wyW g fr nr rl ru f F I L) (hr : sR g p) (hwk : sWork g p = g 8) (hin : cIn g c) (hc : mC c I) (hu : mU (some es) I) (hroom : es.length + 1000 * gl + 19 * sDep g p ≤ 20000) (ha : mWy a I L) (hch : ch ≤ 1000000000) (hlen : ds.length + sDep g p ≤ 20) (hd : ∀ d, d ∈ ds → c.2.1 d.1 = true ∧ sHas g d.1 d.2 = true) (hdr : mDr (20 * (gs - gl)) ds I) (h : ∀ (b : Bool) (I' : zI) (L' : zL), wyR a (sWy g fr rl ru F (fu + 1) gl p c ds ch) b I' L' → mC c I' → mU (some es) I' → zFr tWy I I' → lWy L L' → (∀ j, j < 20 * (gs - gl) + ds.length → I' 21 j = I 21 j ∧ I' 22 j = I 22 j) → post (some (.int (zbo b))) I' L' (zR1 q)) : zC G N 103 [.ref 0, .int (nI (gs - gl)), .int (nI gs), .int (nI p), .int (nI ds.length), .long (lN ch), .int (nI f)] I L (zR1 q) post := by
  obtain ⟨hg, hm, hfr, hF, hrl⟩ := id hw
  have hgo := hg.1
  have h8 := hgo.2.2.2.2.2.2.2.2
  have hp1 := sR_lt hgo hr
  have hmm := sMM_pos hgo
  have hd1 : 1 ≤ sDep g p := by
    obtain ⟨m, hm2⟩ := sCan_some hgo (p := p) (by omega)
    have := sDep_lt hgo hm2
    omega
  obtain ⟨b1, b2, b3, b4⟩ := gR_box hgo hr
  obtain ⟨o1, o2, o3⟩ := sOpn_in hgo (fr := fr) hin hr hwk
  have hbp := sR_ok hgo b1
  have hb1 := hbp.1
  have hib := sInB_le o1.1 hb1
  obtain ⟨N, rfl⟩ : ∃ N', N = N' + 13 := ⟨N - 13, by omega⟩
  have h36 := mU_len hu
  have ecb : (nI (sBox g p)).toNatClampNeg = sBox g p := nI_clamp (by omega)
  have hgm : gs - gl ≤ 2 := by omega
  have hdo : ∀ d, d ∈ ds → (sOpn g fr c (sBox g p)).2.1 d.1 = true ∧ sHas g d.1 d.2 = true := fun d hx => ⟨o3 _ (hd d hx).1, (hd d hx).2⟩
  have eS : sWy g fr rl ru F (fu + 1) gl p c ds ch = (if sInB (sOpn g fr c (sBox g p)) (sBox g p) = 0 then sWy g fr rl ru F fu (gl - 1) (sFirst g) (sPayAll g rl ru 0 ds (some (sBox g p)) (sOpn g fr c (sBox g p))) [] ch else sCat (fun m => if (sOpn g fr c (sBox g p)).1 (9 * sBox g p + m) = 0 then [] else sWy g fr rl ru F fu gl (sBeh g p (sMv g p m)) (sOpn g fr c (sBox g p)) (ds ++ [(sBox g p, m)]) (ch * (sOpn g fr c (sBox g p)).1 (9 * sBox g p + m) / sInB (sOpn g fr c (sBox g p)) (sBox g p))) (sMM g)) := by
    rw [sWy, if_neg (by omega), if_pos (by omega), if_pos hwk]
  rw [eS] at h
  -- taking back at the end
  have fin : ∀ (b : Bool) (fs : List (Nat × Nat)) (x10 x12 x13 : Option Value) (I2 : zI) (L2 : zL), wyR a (if sInB (sOpn g fr c (sBox g p)) (sBox g p) = 0 then sWy g fr rl ru F fu (gl - 1) (sFirst g) (sPayAll g rl ru 0 ds (some (sBox g p)) (sOpn g fr c (sBox g p))) [] ch else sCat (fun m => if (sOpn g fr c (sBox g p)).1 (9 * sBox g p + m) = 0 then [] else sWy g fr rl ru F fu gl (sBeh g p (sMv g p m)) (sOpn g fr c (sBox g p)) (ds ++ [(sBox g p, m)]) (ch * (sOpn g fr c (sBox g p)).1 (9 * sBox g p + m) / sInB (sOpn g fr c (sBox g p)) (sBox g p))) (sMM g)) b I2 L2 → mC (sOpn g fr c (sBox g p)) I2 → mU (some (es ++ fs)) I2 → fs.foldr uU (sOpn g fr c (sBox g p)) = c → (∀ e, e ∈ fs → uV e) → fs.length ≤ 19 → zFr tWy I I2 → lWy L L2 → (∀ j, j < 20 * (gs - gl) + ds.length → I2 21 j = I 21 j ∧ I2 22 j = I 22 j) → zQ G 103 (N + 12) post 178 [some (.ref 0), some (.int (nI (gs - gl))), some (.int (nI gs)), some (.int (nI p)), some (.int (nI ds.length)), some (.long (lN ch)), none, some (.int (nI f)), some (.int (nI es.length)), none, none, some (.int (zbo b)), none, none] [] I2 L2 (zR1 q) := by
    intro b fs x10 x12 x13 I2 L2 r2 hc2 hu2 hfold hv hfl hf2 hl2 hk2
    refine b103_178 (c_takeBack hu2 hc2 hv (by rw [List.length_append]; omega) fun I3 hu3 hc3 hf3 => And.intro (zbo_nar b) ?_)
    rw [hfold] at hc3
    exact h b I3 L2 (wyR_tC r2 hf3) hc3 hu3 (zFr_tr hf2 (tC_tWy hf3)) hl2 fun j hj => ⟨(hf3 21 j rfl).trans (hk2 j hj).1, (hf3 22 j rfl).trans (hk2 j hj).2⟩
  -- the box is open
  have p30 : ∀ (I1 : zI) (fs : List (Nat × Nat)), mC (sOpn g fr c (sBox g p)) I1 → mU (some (es ++ fs)) I1 → fs.foldr uU (sOpn g fr c (sBox g p)) = c → (∀ e, e ∈ fs → uV e) → fs.length ≤ 19 → zFr tC I I1 → zQ G 103 (N + 12) post 30 [some (.ref 0), some (.int (nI (gs - gl))), some (.int (nI gs)), some (.int (nI p)), some (.int (nI ds.length)), some (.long (lN ch)), none, some (.int (nI f)), some (.int (nI es.length)), some (.int (nI (sBox g p))), none, none, none, none] [] I1 L (zR1 q) := by
    intro I1 fs hc1 hu1 hfold hv hfl hf1
    have hw1 := wyW_of hw (tC_tWy hf1) (lWy_0 L)
    have hlen1 : (es ++ fs).length = es.length + fs.length := List.length_append
    refine b103_30 (c_inBox hb1 hc1 ?_)
    refine pk_ne (sInB (sOpn g fr c (sBox g p)) (sBox g p)) 0 (fun z => b103_63 ?_) (fun z => ?_) rfl rfl (by omega) (by omega)
    · rw [if_neg z] at fin
      have hallp : 0 < sInB (sOpn g fr c (sBox g p)) (sBox g p) := Nat.pos_of_ne_zero z
      generalize hf0 : (fun m => if (sOpn g fr c (sBox g p)).1 (9 * sBox g p + m) = 0 then [] else sWy g fr rl ru F fu gl (sBeh g p (sMv g p m)) (sOpn g fr c (sBox g p)) (ds ++ [(sBox g p, m)]) (ch * (sOpn g fr c (sBox g p)).1 (9 * sBox g p + m) / sInB (sOpn g fr c (sBox g p)) (sBox g p))) = wf at fin
      have wfm : ∀ m, wf m = if (sOpn g fr c (sBox g p)).1 (9 * sBox g p + m) = 0 then [] else sWy g fr rl ru F fu gl (sBeh g p (sMv g p m)) (sOpn g fr c (sBox g p)) (ds ++ [(sBox g p, m)]) (ch * (sOpn g fr c (sBox g p)).1 (9 * sBox g p + m) / sInB (sOpn g fr c (sBox g p)) (sBox g p)) := fun m => by rw [← hf0]
      have loop : ∀ j i : Nat, i + j = sMM g → ∀ (b : Bool) (I2 : zI) (L2 : zL), wyR a (sCat wf i) b I2 L2 → mC (sOpn g fr c (sBox g p)) I2 → mU (some (es ++ fs)) I2 → zFr tWy I I2 → lWy L L2 → (∀ j, j < 20 * (gs - gl) + ds.length → I2 21 j = I 21 j ∧ I2 22 j = I 22 j) → zQ G 103 (N + 12) post 66 [some (.ref 0), some (.int (nI (gs - gl))), some (.int (nI gs)), some (.int (nI p)), some (.int (nI ds.length)), some (.long (lN ch)), none, some (.int (nI f)), some (.int (nI es.length)), some (.int (nI (sBox g p))), some (.int (nI (sInB (sOpn g fr c (sBox g p)) (sBox g p)))), some (.int (zbo b)), some (.int (nI i)), none] [] I2 L2 (zR1 q) := by
        intro j
        induction j with
        | zero =>
          intro i hi b I2 L2 r2 hc2 hu2 hf2 hl2 hk2
          have e : i = sMM g := by omega
          subst e
          have hw2 := wyW_of hw hf2 hl2
          exact b103_66 (c_moveMany hw2.1 (pk_le (sMM g) (sMM g) (fun _ => zP_lv (by exact ⟨rfl, rfl, rfl, rfl, rfl, rfl, rfl, rfl, rfl, trivial⟩) (fin b fs none none none I2 L2 r2 hc2 hu2 hfold hv hfl hf2 hl2 hk2)) (fun w => absurd w (by omega)) rfl rfl (by omega) (by omega)))
        | succ j ihj =>
          intro i hi b I2 L2 r2 hc2 hu2 hf2 hl2 hk2
          have hw2 := wyW_of hw hf2 hl2
          obtain ⟨X, hX⟩ := sCat_le wf i (j + 1)
          refine b103_66 (c_moveMany hw2.1 (pk_le (sMM g) i (fun w => absurd w (by omega)) (fun _ => ?_) rfl rfl (by omega) (by omega)))
          cases b with
          | false =>
            refine And.intro (fun _ => zP_lv (by exact ⟨rfl, rfl, rfl, rfl, rfl, rfl, rfl, rfl, rfl, trivial⟩) (fin false fs none none none I2 L2 ?_ hc2 hu2 hfold hv hfl hf2 hl2 hk2)) (fun w => absurd rfl w)
            rw [show sMM g = i + (j + 1) by omega, hX]
            exact wyR_f r2
          | true =>
            obtain ⟨hW, haW⟩ := wyR_t r2
            have hk0 : 9 * sBox g p + i < 177147 := by omega
            have hbd := cAll_bd o1.1 hk0
            have e9 : (9 : Int32) * nI (sBox g p) + nI i = nI (9 * sBox g p + i) := by rw [show (9 : Int32) = nI 9 from rfl, pk_mul, nI_add]
            have in9 : vp_in ((9 : Int32) * nI (sBox g p) + nI i) 177147 := by rw [e9]; exact vp_in_nI hk0 (by decide)
            have eb : I2 5 ((9 : Int32) * nI (sBox g p) + nI i).toNatClampNeg = nI ((sOpn g fr c (sBox g p)).1 (9 * sBox g p + i)) := by rw [e9, nI_clamp (by omega)]; exact hc2.1 _ hk0
            refine And.intro (fun w => absurd w (by decide)) (fun _ => pk_le (sInB (sOpn g fr c (sBox g p)) (sBox g p)) 0 (fun w => absurd w (by omega)) (fun _ => And.intro in9 ?_) rfl rfl (by omega) (by omega))
            have next : ∀ (b' : Bool) (I3 : zI) (L3 : zL), wyR a (sCat wf (i + 1)) b' I3 L3 → mC (sOpn g fr c (sBox g p)) I3 → mU (some (es ++ fs)) I3 → zFr tWy I I3 → lWy L L3 → (∀ j, j < 20 * (gs - gl) + ds.length → I3 21 j = I 21 j ∧ I3 22 j = I 22 j) → ∀ x13 : Int32, zQ G 103 (N + 12) post 172 [some (.ref 0), some (.int (nI (gs - gl))), some (.int (nI gs)), some (.int (nI p)), some (.int (nI ds.length)), some (.long (lN ch)), none, some (.int (nI f)), some (.int (nI es.length)), some (.int (nI (sBox g p))), some (.int (nI (sInB (sOpn g fr c (sBox g p)) (sBox g p)))), some (.int (zbo b')), some (.int (nI i)), some (.int x13)] [] I3 L3 (zR1 q) := by
              intro b' I3 L3 r3 hc3 hu3 hf3 hl3 hk3 x13
              have qq := ihj (i + 1) (by omega) b' I3 L3 r3 hc3 hu3 hf3 hl3 hk3
              rw [← nI_1] at qq
              exact b103_172 (zP_lv (by exact ⟨rfl, rfl, rfl, rfl, rfl, rfl, rfl, rfl, rfl, rfl, rfl, rfl, trivial⟩) qq)
            refine pk_ne ((sOpn g fr c (sBox g p)).1 (9 * sBox g p + i)) 0 (fun z2 => b103_108 ?_) (fun z2 => ?_) eb rfl (by omega) (by omega)
            · have hhas := (o1.2.2 (sBox g p) i (by omega) z2).2
              have hcb := (sHas_lt hgo hhas).2
              have hcan := sMv_can hgo hcb
              have hdl := sDep_lt hgo hcan
              have hwp : sWork g p < 2 := by omega
              have hrn := sR_step hr hwp hcan
              have eoff : (20 : Int32) * nI (gs - gl) + nI ds.length = nI (20 * (gs - gl) + ds.length) := by rw [show (20 : Int32) = nI 20 from rfl, pk_mul, nI_add]
              have voff : vp_in ((20 : Int32) * nI (gs - gl) + nI ds.length) 60 := by rw [eoff]; exact vp_in_nI (by omega) (by decide)
              have ecoff : ((20 : Int32) * nI (gs - gl) + nI ds.length).toNatClampNeg = 20 * (gs - gl) + ds.length := by rw [eoff, nI_clamp (by omega)]
              refine And.intro voff (And.intro voff ?_)
              obtain ⟨I3, hI3⟩ : ∃ I3 : zI, I3 = zup (zup I2 21 (20 * (gs - gl) + ds.length) (nI (sBox g p))) 22 (20 * (gs - gl) + ds.length) (nI i) := ⟨_, rfl⟩
              have hI3o : ∀ o, o ≠ 21 → o ≠ 22 → I3 o = I2 o := fun o h1 h2 => by rw [hI3, zup_ne h2, zup_ne h1]
              have i21 : ∀ x, I3 21 x = if x = 20 * (gs - gl) + ds.length then nI (sBox g p) else I2 21 x := fun x => by rw [hI3, zup_ne (by decide), zup_eq]
              have i22 : ∀ x, I3 22 x = if x = 20 * (gs - gl) + ds.length then nI i else I2 22 x := fun x => by rw [hI3, zup_eq, zup_ne (by decide)]
              have hf3 : zFr tWy I I3 := by rw [hI3]; exact zFr_up (zFr_up hf2 rfl) rfl
              have hw3 := wyW_of hw hf3 hl2
              show zC G (N + 12) 27 [.ref 0, .int (nI p), .int (nI i)] (zup (zup I2 21 ((20 : Int32) * nI (gs - gl) + nI ds.length).toNatClampNeg (nI (sBox g p))) 22 ((20 : Int32) * nI (gs - gl) + nI ds.length).toNatClampNeg (nI i)) L2 (zR1 q) _
              rw [ecoff, ← hI3]
              refine c_moveOf hw3.1 hp1 (by omega) ?_
              rw [(sMv_ok hgo (p := p) (show i < sMM g by omega)).1]
              refine c_behind hw3.1 (sR_ok hgo hr) hcan ?_
              refine And.intro ?_ ?_
              · show ¬ (nI (sInB (sOpn g fr c (sBox g p)) (sBox g p))).toInt64 = 0
                rw [nI_l (by omega)]
                exact fun w => z ((pk_lEQ (b := 0) (by omega) (by omega)).mp w)
              have emul : ch * (sOpn g fr c (sBox g p)).1 (9 * sBox g p + i) ≤ 1000000000 * 10000 := Nat.mul_le_mul hch hbd.1
              have ech : lN ch * (I2 5 ((9 : Int32) * nI (sBox g p) + nI i).toNatClampNeg).toInt64 / (nI (sInB (sOpn g fr c (sBox g p)) (sBox g p))).toInt64 = lN (ch * (sOpn g fr c (sBox g p)).1 (9 * sBox g p + i) / sInB (sOpn g fr c (sBox g p)) (sBox g p)) := by
                rw [eb, nI_l (by omega), nI_l (by omega), lN_mul, pk_lDiv (by omega) hallp (by omega)]
              have hle : (sOpn g fr c (sBox g p)).1 (9 * sBox g p + i) ≤ sInB (sOpn g fr c (sBox g p)) (sBox g p) := sSum_ge (f := fun k => (sOpn g fr c (sBox g p)).1 (9 * sBox g p + k)) 9 (by omega)
              have hch2 : ch * (sOpn g fr c (sBox g p)).1 (9 * sBox g p + i) / sInB (sOpn g fr c (sBox g p)) (sBox g p) ≤ 1000000000 := Nat.le_trans (zdiv_le (Nat.mul_le_mul_left ch hle)) hch
              have elen : nI ds.length + 1 = nI (ds ++ [(sBox g p, i)]).length := by rw [snoc_len, nI_1]
              show zC G (N + 12) 100 [.ref 0, .int (nI (gs - gl)), .int (nI gs), .int (nI (sBeh g p (sMv g p i))), .int (nI ds.length + 1), .long (lN ch * (I2 5 ((9 : Int32) * nI (sBox g p) + nI i).toNatClampNeg).toInt64 / (nI (sInB (sOpn g fr c (sBox g p)) (sBox g p))).toInt64), .int (nI f)] I3 L2 (zR1 q) _
              rw [ech, elen]
              have hu3 : mU (some (es ++ fs)) I3 := mU_of hu2 (by rw [hI3o 0 (by decide) (by decide)]) (by rw [hI3o 0 (by decide) (by decide)]) (hI3o 18 (by decide) (by decide)) (hI3o 19 (by decide) (by decide))
              have hc3 : mC (sOpn g fr c (sBox g p)) I3 := mC_of hc2 (hI3o 5 (by decide) (by decide)) (hI3o 4 (by decide) (by decide)) (by rw [hI3o 0 (by decide) (by decide)]) (by rw [hI3o 0 (by decide) (by decide)]) (by rw [hI3o 0 (by decide) (by decide)])
              refine ih gl (sBeh g p (sMv g p i)) (N + 12) _ (sOpn g fr c (sBox g p)) (ds ++ [(sBox g p, i)]) (es ++ fs) ((sCat wf i).foldl wAcc a) I3 L2 _ (by omega) (by omega) (by omega) hw3 hrn o1 hc3 hu3 (by omega) (mWy_fr haW (hI3o 0 (by decide) (by decide))) hch2 (by rw [snoc_len]; omega) (fun d hx => ?_) (fun j d hj => ?_) fun b' I4 L4 r4 hc4 hu4 hf4 hl4 hk4 => ?_
              · rcases List.mem_append.mp hx with y | y
                · exact hdo d y
                · rw [List.mem_singleton.mp y]
                  exact ⟨o2, hhas⟩
              · rw [i21, i22]
                rcases snoc_get hj with ⟨y1, y2⟩ | ⟨y1, y2⟩
                · rw [if_pos (by omega), if_pos (by omega), y2]
                  exact ⟨rfl, rfl⟩
                · rw [if_neg (by omega), if_neg (by omega), (hk2 _ (by omega)).1, (hk2 _ (by omega)).2]
                  exact hdr j d y2
              · have hf14 := zFr_tr hf3 hf4
                refine next b' I4 L4 ?_ hc4 hu4 hf14 (lWy_tr hl2 hl4) (fun j hj => ?_) _
                · have es1 : sCat wf (i + 1) = sCat wf i ++ wf i := rfl
                  rw [es1, wfm, if_neg z2]
                  exact wyR_app hW r4
                · have y := hk4 j (by rw [snoc_len]; omega)
                  rw [y.1, y.2, i21, i22, if_neg (by omega), if_neg (by omega)]
                  exact hk2 j hj
            · have es1 : sCat wf (i + 1) = sCat wf i ++ wf i := rfl
              refine next true I2 L2 ?_ hc2 hu2 hf2 hl2 hk2 _
              rw [es1, wfm, if_pos z2]
              exact wyR_nil r2
      have qq := loop (sMM g) 0 (by omega) true I1 L (wyR_0 (mWy_tC ha hf1)) hc1 hu1 (tC_tWy hf1) (lWy_0 L) (fun j _ => ⟨hf1 21 j rfl, hf1 22 j rfl⟩)
      exact qq
    · rw [if_pos z] at fin
      have hdf := sDep_first g hgo
      show zC G (N + 12) 102 [.ref 0, .int (nI (gs - gl)), .int (nI gs), .int (nI p), .int (nI ds.length), .int (zon (some (sBox g p))), .long (lN ch), .int (nI f)] I1 L (zR1 q) _
      refine wy_end ih hgs hgl (by omega) (by omega) hw1 hr o1 hc1 hu1 (by omega) (mWy_tC ha hf1) hch (by omega) hdo (mDr_tC hdr hf1) (fun b hb => by injection hb with hb; rw [← hb]; exact o2) (fun w => by cases w) fun b I2 L2 r2 hc2 hu2 hf2 hl2 hk2 => b103_63 ?_
      have f178 := fin b fs none none none I2 L2 r2 hc2 hu2 hfold hv hfl (zFr_tr (tC_tWy hf1) hf2) hl2 (fun j hj => by
        have y := hk2 j (by omega)
        exact ⟨y.1.trans (hf1 21 j rfl), y.2.trans (hf1 22 j rfl)⟩)
      have hw2 := wyW_of hw (zFr_tr (tC_tWy hf1) hf2) hl2
      have out : ∀ x : Int32, zQ G 103 (N + 12) post 178 [some (.ref 0), some (.int (nI (gs - gl))), some (.int (nI gs)), some (.int (nI p)), some (.int (nI ds.length)), some (.long (lN ch)), none, some (.int (nI f)), some (.int (nI es.length)), some (.int (nI (sBox g p))), some (.int (nI (sInB (sOpn g fr c (sBox g p)) (sBox g p)))), some (.int (zbo b)), some (.int 0), none] [] I2 L2 (zR1 q) := fun _ => zP_lv (by exact ⟨rfl, rfl, rfl, rfl, rfl, rfl, rfl, rfl, rfl, trivial⟩) f178
      refine b103_66 (c_moveMany hw2.1 (pk_le (sMM g) 0 (fun _ => out 0) (fun _ => ?_) rfl rfl (by omega) (by omega)))
      cases b with
      | false => exact And.intro (fun _ => out 0) (fun w => absurd rfl w)
      | true => exact And.intro (fun w => absurd w (by decide)) (fun _ => pk_le (sInB (sOpn g fr c (sBox g p)) (sBox g p)) 0 (fun _ => out 0) (fun w => absurd w (by omega)) rfl rfl (by omega) (by omega))
  have eop : I 4 (nI (sBox g p)).toNatClampNeg = zbo (c.2.1 (sBox g p)) := by rw [ecb]; exact hc.2.1 _ hb1
  refine zin0 rfl rfl rfl (b103_0 (c_boxOf hg hp1 (And.intro (vp_in_nI hb1 (by decide)) ?_)))
  show (¬ I 4 (nI (sBox g p)).toNatClampNeg = 0 → _) ∧ (I 4 (nI (sBox g p)).toNatClampNeg = 0 → _)
  rw [eop]
  refine zbo_ne (fun z3 => ?_) (fun z3 => ?_)
  · have e : sOpn g fr c (sBox g p) = c := by unfold sOpn; rw [if_pos z3]
    have qq := p30 I [] (by rw [e]; exact hc) (by rw [List.append_nil]; exact hu) (by rw [e]; rfl) (fun e he => by cases he) (by decide) (zFr_0 _ _)
    rw [← h36] at qq
    exact qq
  · have e : sOpn g fr c (sBox g p) = (cFill g (sBox g p) (fr (min 20 (sStn g (sBox g p)))) (cSetOp c (sBox g p) true) (sMM g)).1 := by unfold sOpn; rw [if_neg (by rw [z3]; exact Bool.false_ne_true)]
    refine c_openBox hg hfr hbp z3 hin.1 hc hu (show es.length + 19 ≤ 20000 by omega) fun I2 w2 hc2 hu2 hs2 hf2 => And.intro rfl ?_
    cases w2 with
    | none => exact hs2.elim
    | some es2 =>
      obtain ⟨fs, x1, x2, x3, x4⟩ := hs2
      have qq := p30 I2 fs (by rw [e]; exact hc2) (by rw [← x1]; exact hu2) (by rw [e]; exact x3) x4 x2 hf2
      rw [← h36] at qq
      exact qq
end
