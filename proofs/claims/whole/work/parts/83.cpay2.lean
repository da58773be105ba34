-- ===== the class: paying, refilling =====
section
variable {G : zG} {n : Nat} {I : zI} {L : zL} {q : zq} {post : zPo} {g : zg} {X M A K W N O B P RO RA RT : Nat} {c : sC}
theorem sPays_one (rl : zrl) (r e : Nat) : ∀ (ds : List (Nat × Nat)) (d : Nat × Nat) (i : Nat) (c : sC), sPays rl r e (ds ++ [d]) i c = cPay (sPays rl r e ds i c) (9 * d.1 + d.2) (sAmt rl r e (i + ds.length))
  | [], d, i, c => rfl
  | x :: ds, d, i, c => by
    show sPays rl r e (ds ++ [d]) (i + 1) _ = cPay (sPays rl r e ds (i + 1) _) _ _
    rw [sPays_one rl r e ds d (i + 1)]
    congr 2
    show i + 1 + ds.length = i + (ds.length + 1)
    omega
theorem sRefs_one (g : zg) (x : Nat) : ∀ (ds : List (Nat × Nat)) (d : Nat × Nat) (c : sC), sRefs g x (ds ++ [d]) c = cRefill g d.1 x (sRefs g x ds c)
  | [], _, _ => rfl
  | y :: ds, d, c => sRefs_one g x ds d _
/-- all boxes drawn from refilled, then the one that was empty -/
def sRefAll (g : zg) (x : Nat) (ds : List (Nat × Nat)) (em : Option Nat) (c : sC) : sC := match em with
  | none => sRefs g x ds c
  | some b => cRefill g b x (sRefs g x ds c)
theorem sPayAll_ref (g : zg) (rl : zrl) (r e : Nat) (ds : List (Nat × Nat)) (em : Option Nat) (c : sC) : sPayAll g rl (some r) e ds em c = sRefAll g (rl.2.2 r) ds em (sPays rl r e ds 0 c) := by
  rw [sPayAll_some]
  cases em <;> rfl
theorem take_snoc {α : Type} {l : List α} {i : Nat} {d : α} (h : l[i]? = some d) : l.take (i + 1) = l.take i ++ [d] := by
  rw [List.take_add_one, h]
  rfl
theorem take_mem {α : Type} {l : List α} {i : Nat} {d : α} (h : d ∈ l.take i) : d ∈ l := List.mem_of_mem_take h
/-- an object of a contest, but for its own rows, stays -/
theorem ch_row {O B P o : Nat} {I I' : zI} (h : zFr (tCh O B P) I I') (h1 : o ≠ B) (h2 : o ≠ P) (h3 : o ≠ O) : I' o = I o := funext fun k => h o k (by
  cases e : tCh O B P o k with
  | false => rfl
  | true => have := tCh_p e; omega)
set_option maxHeartbeats 4000000 in
set_option maxRecDepth 8000 in
theorem k_reward {ds : List (Nat × Nat)} {rl : zrl} {r e : Nat} (hX : kXo X M A K W N O B P) (hR : kRo RO RA RT) (hru : kRu RO RA RT (rl.1 r, rl.2.1 r, rl.2.2 r) I) (hrok : rsOk (rl.1 r, rl.2.1 r, rl.2.2 r)) (he : e < 3) (hL : kLay g I) (hc : kC g c O B P I) (hin : cIn g c) (hds : kDn g X A K ds I) (hl20 : ds.length ≤ 20) (hd : ∀ d, d ∈ ds → c.2.1 d.1 = true ∧ sHas g d.1 d.2 = true) (h : ∀ I' : zI, kC g (sPays rl r e ds 0 c) O B P I' → zFr (tCh O B P) I I' → post none I' L (zR1 q)) : zC G (n + 3) 153 [.ref X, .ref O, .ref RO, .int (nI e)] I L (zR1 q) post := by
  have hg := hL.1.1
  have hR' := hR
  have hcO := kXo_co hX
  obtain ⟨hge, n79, nA, nM, nN, -, -⟩ := kXo_f hX
  have rhi := kRo_hi hR
  have key : ∀ j i (J : zI) (v5 v6 : Option Value), i + j = ds.length → kC g (sPays rl r e (ds.take i) 0 c) O B P J → zFr (tCh O B P) I J → zQ G 153 (n + 2) post 3 [some (.ref X), some (.ref O), some (.ref RO), some (.int (nI e)), some (.int (nI i)), v5, v6] [] J L (zR1 q) := by
    intro j
    induction j with
    | zero =>
      intro i J v5 v6 hi jc jf
      have ei : i = ds.length := by omega
      rw [ei, List.take_length] at jc
      have hh := h J jc jf
      have rX : J X = I X := ch_row jf (Ne.symm nA.2.2.2.1.2.2) (Ne.symm nA.2.2.2.2.1.2.2) (Ne.symm nA.2.2.2.2.2.1.2.2)
      have x6 : J X 6 = nI ds.length := by rw [rX]; exact hds.1
      have dec : ∀ x : Int32, x = nI ds.length → x ≤ nI i := fun x hx => by
        subst hx
        rw [ei]
        exact Int32.le_refl _
      have dd := dec _ x6
      rcases hX with ⟨x1, x2, x3, x4, y5, y6, x7, x8, x9⟩ | ⟨x1, x2, x3, x4, y5, y6, x7, x8, x9⟩ | ⟨x1, x2, x3, x4, y5, y6, x7, x8, x9⟩ <;> (
        subst x1 x2 x3 x4 y5 y6 x7 x8 x9
        exact b153_3 (And.intro (fun _ => b153_93 hh) (fun z => absurd dd z)))
    | succ j ih =>
      intro i J v5 v6 hi jc jf
      have hil : i < ds.length := by omega
      have eg := List.getElem?_eq_getElem hil
      generalize hdi : ds[i] = d at eg
      obtain ⟨p, q1, q2, q3, q4, q5⟩ := hds.2 i d eg
      obtain ⟨m1, m2⟩ := hd d (List.mem_of_getElem? eg)
      have k9 := (sHas_lt hg m2).1
      obtain ⟨s1, s2⟩ := sPays_in hg (rl := rl) (r := r) (e := e) (ds.take i) 0 c hin (fun d hx => hd d (take_mem hx))
      have hb := cIn_sB hin m1
      have LJ : kLay g J := kLay_of hL (fun o z1 z2 => ch_row jf (by omega) (by omega) (by omega))
      have rJ : kRu RO RA RT (rl.1 r, rl.2.1 r, rl.2.2 r) J := kRu_of hru (ch_row jf (by omega) (by omega) (by omega)) (ch_row jf (by omega) (by omega) (by omega)) (ch_row jf (by omega) (by omega) (by omega))
      have rX : J X = I X := ch_row jf (Ne.symm nA.2.2.2.1.2.2) (Ne.symm nA.2.2.2.2.1.2.2) (Ne.symm nA.2.2.2.2.2.1.2.2)
      have rA : J A = I A := ch_row jf (Ne.symm nA.2.2.2.1.1) (Ne.symm nA.2.2.2.2.1.1) (Ne.symm nA.2.2.2.2.2.1.1)
      have rK : J K = I K := ch_row jf (Ne.symm nA.2.2.2.1.2.1) (Ne.symm nA.2.2.2.2.1.2.1) (Ne.symm nA.2.2.2.2.2.1.2.1)
      have x6 : J X 6 = nI ds.length := by rw [rX]; exact hds.1
      have aA : J A i = nI p := by rw [rA]; exact q1
      have aK : J K i = nI d.2 := by rw [rK]; exact q5
      have bd := sAm_bd hrok he (i := i) (by omega)
      have am : sAm (rl.1 r, rl.2.1 r, rl.2.2 r) e i = sAmt rl r e i := rfl
      have eP : sPays rl r e (ds.take (i + 1)) 0 c = cPay (sPays rl r e (ds.take i) 0 c) (9 * d.1 + d.2) (sAmt rl r e i) := by
        rw [take_snoc eg, sPays_one, Nat.zero_add, List.length_take, show min i ds.length = i by omega]
      have nxt : ∀ (J2 : zI) (v5 v6 : Option Value), kC g (cPay (sPays rl r e (ds.take i) 0 c) (9 * d.1 + d.2) (sAmt rl r e i)) O B P J2 → zFr (tCh O B P) J J2 → zQ G 153 (n + 2) post 87 [some (.ref X), some (.ref O), some (.ref RO), some (.int (nI e)), some (.int (nI i)), v5, v6] [] J2 L (zR1 q) := by
        intro J2 v5 v6 c2 f2
        have qq := ih (i + 1) J2 v5 v6 (by omega) (by rw [eP]; exact c2) (zFr_tr jf f2)
        rw [← nI_1] at qq
        rcases hX with ⟨x1, x2, x3, x4, y5, y6, x7, x8, x9⟩ | ⟨x1, x2, x3, x4, y5, y6, x7, x8, x9⟩ | ⟨x1, x2, x3, x4, y5, y6, x7, x8, x9⟩ <;> (
          subst x1 x2 x3 x4 y5 y6 x7 x8 x9
          exact b153_87 qq)
      have hcl : (nI i).toNatClampNeg = i := nI_clamp (by omega)
      have vi : vp_in (nI i) 20 := vp_in_nI (by omega) (by decide)
      have dec : ∀ x : Int32, x = nI ds.length → ¬ x ≤ nI i := fun x hx z => by
        subst hx
        have := (nI_leI (by omega) (by omega)).mp z
        omega
      have dd := dec _ x6
      have d20 : ¬ (Int32.ofNat 20 : Int32) ≤ nI i := fun z => by
        have := (nI_leI (a := 20) (by omega) (by omega)).mp z
        omega
      -- the beads, paid or taken
      have pos : 0 < sAmt rl r e i → ∀ post' : zPo, (∀ J2 : zI, zQ G 153 (n + 2) post 87 [some (.ref X), some (.ref O), some (.ref RO), some (.int (nI e)), some (.int (nI i)), some (.int (nI (sl g d.1))), some (.int (iI (sAmt rl r e i)))] [] J2 L (zR1 q) → ∀ w : Int32, post' (some (.int w)) J2 L (zR1 q)) → zC G (n + 2) 137 [.ref O, .int (nI (sl g d.1)), .int (nI d.2), .int (iI (sAmt rl r e i))] J L (zR1 q) post' := by
        intro hp post' hh
        refine k_takeIn (x := (sAmt rl r e i).toNat) hcO hg s1.1 jc hb k9 (iI_nat (by omega)) (by omega) (fun J2 c2 f2 => hh J2 (nxt J2 _ _ ?_ f2) _)
        unfold cPay
        rw [if_pos (by omega)]
        exact c2
      have neg : sAmt rl r e i ≤ 0 → ∀ post' : zPo, (∀ J2 : zI, zQ G 153 (n + 2) post 87 [some (.ref X), some (.ref O), some (.ref RO), some (.int (nI e)), some (.int (nI i)), some (.int (nI (sl g d.1))), some (.int (iI (sAmt rl r e i)))] [] J2 L (zR1 q) → post' none J2 L (zR1 q)) → zC G (n + 2) 139 [.ref O, .int (nI (sl g d.1)), .int (nI d.2), .int (-(iI (sAmt rl r e i)))] J L (zR1 q) post' := by
        intro hp post' hh
        refine k_spend (x := (-(sAmt rl r e i)).toNat) hcO hg s1.1 jc hb k9 (by rw [iI_neg]; exact iI_nat (by omega)) (by omega) (fun J2 c2 f2 => hh J2 (nxt J2 _ _ ?_ f2))
        unfold cPay
        by_cases w : 0 ≤ sAmt rl r e i
        · have w0 : sAmt rl r e i = 0 := by omega
          rw [if_pos w]
          rw [w0] at c2 ⊢
          have e1 := cSp_0 (sPays rl r e (ds.take i) 0 c) (9 * d.1 + d.2)
          have e2 := cGive_0 (sPays rl r e (ds.take i) 0 c) (9 * d.1 + d.2)
          show kC g (cGive _ _ 0) O B P J2
          rw [e2]
          have c2 : kC g (cSetSp (cSetBd (sPays rl r e (ds.take i) 0 c) (9 * d.1 + d.2) ((sPays rl r e (ds.take i) 0 c).1 (9 * d.1 + d.2) - min 0 ((sPays rl r e (ds.take i) 0 c).1 (9 * d.1 + d.2)))) ((sPays rl r e (ds.take i) 0 c).2.2.2.1 + min 0 ((sPays rl r e (ds.take i) 0 c).1 (9 * d.1 + d.2)))) O B P J2 := c2
          rw [e1] at c2
          exact c2
        · rw [if_neg w]
          exact c2
      have sgn : (iI (sAmt rl r e i) ≤ 0 → sAmt rl r e i ≤ 0) ∧ (¬ iI (sAmt rl r e i) ≤ 0 → 0 < sAmt rl r e i) := by
        have z := iI_lt (a := 0) (b := sAmt rl r e i) (by omega) (by omega) (by rw [am] at bd; omega) (by rw [am] at bd; omega)
        exact ⟨fun y => by
          by_cases w : 0 < sAmt rl r e i
          · exact absurd y (Int32.not_le.mpr (z.mpr w))
          · omega, fun y => z.mp (Int32.not_le.mp y)⟩
      have amt := fun post' hp => k_amount (G := G) (n := n + 1) (I := J) (L := L) (q := q) (post := post') (e := e) (i := i) hR' rJ he hp
      rw [am] at amt
      rcases hX with ⟨x1, x2, x3, x4, y5, y6, x7, x8, x9⟩ | ⟨x1, x2, x3, x4, y5, y6, x7, x8, x9⟩ | ⟨x1, x2, x3, x4, y5, y6, x7, x8, x9⟩ <;> (
        subst x1 x2 x3 x4 y5 y6 x7 x8 x9
        refine b153_3 (And.intro (fun z => absurd z dd) (fun _ => And.intro (fun z => absurd z d20) (fun _ => And.intro vi ?_)))
        rw [hcl, aA]
        refine k_slotP LJ q2 q3 ?_
        rw [q4]
        rcases hR with ⟨r1, r2, r3⟩ | ⟨r1, r2, r3⟩ | ⟨r1, r2, r3⟩ | ⟨r1, r2, r3⟩ | ⟨r1, r2, r3⟩ | ⟨r1, r2, r3⟩ | ⟨r1, r2, r3⟩ | ⟨r1, r2, r3⟩ <;> (
          subst r1 r2 r3
          refine amt _ ?_
          refine And.intro (fun z => b153_71 (And.intro vi ?_)) (fun z => And.intro vi ?_)
          · rw [hcl, aK]
            exact neg (sgn.1 z) _ (fun J2 hh => hh)
          · rw [hcl, aK]
            exact pos (sgn.2 z) _ (fun J2 hh _ => And.intro rfl hh)))
  have kk := key ds.length 0 I none none (by omega) hc (zFr_0 _ _)
  rcases hX with ⟨x1, x2, x3, x4, y5, y6, x7, x8, x9⟩ | ⟨x1, x2, x3, x4, y5, y6, x7, x8, x9⟩ | ⟨x1, x2, x3, x4, y5, y6, x7, x8, x9⟩ <;> (
    subst x1 x2 x3 x4 y5 y6 x7 x8 x9
    rcases hR with ⟨r1, r2, r3⟩ | ⟨r1, r2, r3⟩ | ⟨r1, r2, r3⟩ | ⟨r1, r2, r3⟩ | ⟨r1, r2, r3⟩ | ⟨r1, r2, r3⟩ | ⟨r1, r2, r3⟩ | ⟨r1, r2, r3⟩ <;> (
      subst r1 r2 r3
      exact zin0 rfl rfl rfl (b153_0 kk)))
set_option maxHeartbeats 4000000 in
set_option maxRecDepth 8000 in
theorem k_refill {ds : List (Nat × Nat)} {em : Option Nat} {s : zrS} (hX : kXo X M A K W N O B P) (hR : kRo RO RA RT) (hru : kRu RO RA RT s I) (hrok : rsOk s) (hL : kLay g I) (hc : kC g c O B P I) (hin : cIn g c) (hds : kDn g X A K ds I) (hsk : kSk g X em I) (hl20 : ds.length ≤ 20) (hem20 : em ≠ none → ds.length < 20) (hd : ∀ d, d ∈ ds → c.2.1 d.1 = true) (hem : ∀ b, em = some b → c.2.1 b = true) (h : ∀ I' : zI, kC g (sRefAll g s.2.2 ds em c) O B P I' → zFr (tCh O B P) I I' → post none I' L (zR1 q)) : zC G (n + 4) 154 [.ref X, .ref O, .ref RO] I L (zR1 q) post := by
  have hg := hL.1.1
  have hR' := hR
  have hcO := kXo_co hX
  obtain ⟨hge, n79, nA, nM, nN, -, -⟩ := kXo_f hX
  have rhi := kRo_hi hR
  have g8 := hg.2.2.2.2.2.2.2.2
  have x99 : s.2.2 ≤ 99 := hrok.2
  -- what holds at any time
  have stat : ∀ J : zI, zFr (tCh O B P) I J → kLay g J ∧ kRu RO RA RT s J ∧ J X = I X ∧ J A = I A := fun J jf => ⟨kLay_of hL (fun o z1 z2 => ch_row jf (by omega) (by omega) (by omega)), kRu_of hru (ch_row jf (by omega) (by omega) (by omega)) (ch_row jf (by omega) (by omega) (by omega)) (ch_row jf (by omega) (by omega) (by omega)), ch_row jf (Ne.symm nA.2.2.2.1.2.2) (Ne.symm nA.2.2.2.2.1.2.2) (Ne.symm nA.2.2.2.2.2.1.2.2), ch_row jf (Ne.symm nA.2.2.2.1.1) (Ne.symm nA.2.2.2.2.1.1) (Ne.symm nA.2.2.2.2.2.1.1)⟩
  -- one position's box
  have one : ∀ (c1 : sC) (i p b : Nat) (J : zI), cIn g c1 → c1.2.1 b = true → kC g c1 O B P J → zFr (tCh O B P) I J → sR g p → sWork g p = g 8 → sBox g p = b → i ≤ 20 → (∀ (J2 : zI) (v4 v5 : Option Value), kC g (cRefill g b s.2.2 c1) O B P J2 → zFr (tCh O B P) I J2 → zQ G 154 (n + 3) post 87 [some (.ref X), some (.ref O), some (.ref RO), some (.int (nI i)), v4, v5] [] J2 L (zR1 q)) → ∀ v4 v5, zQ G 154 (n + 3) post 40 [some (.ref X), some (.ref O), some (.ref RO), some (.int (nI i)), v4, v5] [.int (nI p)] J L (zR1 q) := by
    intro c1 i p b J h1 ho jc jf r1 r2 r3 hi nx v4 v5
    obtain ⟨LJ, rJ, -, -⟩ := stat J jf
    have hb := cIn_sB h1 ho
    have b19 := sR_lt hg (sBxB_t.mp hb).1
    have hle := sInB_le h1.1 b19
    have hle2 := sl_lt hg hb
    have skip : sInB c1 b ≠ 0 → ∀ v4 v5, zQ G 154 (n + 3) post 87 [some (.ref X), some (.ref O), some (.ref RO), some (.int (nI i)), v4, v5] [] J L (zR1 q) := fun z v4 v5 => nx J v4 v5 (by unfold cRefill; rw [if_neg z]; exact jc) jf
    have fill : sInB c1 b = 0 → ∀ J2 : zI, kC g (cFl (sHas g b) b s.2.2 (cSetOp c1 b true) 9).1 O B P J2 → zFr (tCh O B P) J J2 → ∀ v4 v5, zQ G 154 (n + 3) post 87 [some (.ref X), some (.ref O), some (.ref RO), some (.int (nI i)), v4, v5] [] J2 L (zR1 q) := fun z J2 c2 f2 v4 v5 => nx J2 v4 v5 (by
      unfold cRefill
      rw [if_pos z]
      rw [cFl_fill, cFill_9 hg, cSetOp_t ho] at c2
      exact c2) (zFr_tr jf f2)
    have rfl1 := fun post' hp => k_ruRefill (G := G) (n := n + 2) (I := J) (L := L) (q := q) (post := post') hR' rJ hp
    rcases hX with ⟨x1, x2, x3, x4, y5, y6, x7, x8, x9⟩ | ⟨x1, x2, x3, x4, y5, y6, x7, x8, x9⟩ | ⟨x1, x2, x3, x4, y5, y6, x7, x8, x9⟩ <;> (
      subst x1 x2 x3 x4 y5 y6 x7 x8 x9
      refine b154_40 (k_slotP LJ r1 r2 ?_)
      rw [r3]
      refine And.intro (fun z => absurd z (nI_pos (by have : sSl g (g 8) b = sl g b := rfl; omega))) (fun _ => k_allOf (b := b) hcO hg jc hb ?_)
      refine pk_ne (sInB c1 b) 0 (fun z => skip z _ _) (fun z => k_kindsAt LJ r1 (by omega) ?_) rfl rfl (by omega) (by omega)
      rw [r3]
      rcases hR with ⟨q1, q2, q3⟩ | ⟨q1, q2, q3⟩ | ⟨q1, q2, q3⟩ | ⟨q1, q2, q3⟩ | ⟨q1, q2, q3⟩ | ⟨q1, q2, q3⟩ | ⟨q1, q2, q3⟩ | ⟨q1, q2, q3⟩ <;> (
        subst q1 q2 q3
        exact rfl1 _ (k_fill2 (b := b) hcO hg h1.1 jc hb (kd_bits g b) rfl (by omega) (fun J2 c2 f2 => And.intro rfl (fill z J2 c2 f2 _ _)))))
  have key : ∀ j i (J : zI) (v4 v5 : Option Value), i + j = ds.length → kC g (sRefs g s.2.2 (ds.take i) c) O B P J → zFr (tCh O B P) I J → zQ G 154 (n + 3) post 2 [some (.ref X), some (.ref O), some (.ref RO), some (.int (nI i)), v4, v5] [] J L (zR1 q) := by
    intro j
    induction j with
    | zero =>
      intro i J v4 v5 hi jc jf
      have ei : i = ds.length := by omega
      obtain ⟨s1, s2⟩ := sRefs_in hg (x := s.2.2) (ds.take i) c hin (fun d hx => hd d (take_mem hx))
      obtain ⟨LJ, rJ, rX, rA⟩ := stat J jf
      have x6 : J X 6 = nI ds.length := by rw [rX]; exact hds.1
      -- the end of the loop
      have stop : ∀ (J2 : zI) (v4 v5 : Option Value), kC g (sRefAll g s.2.2 ds em c) O B P J2 → zFr (tCh O B P) I J2 → ∀ k, ds.length < k → k < 1000 → zQ G 154 (n + 3) post 2 [some (.ref X), some (.ref O), some (.ref RO), some (.int (nI k)), v4, v5] [] J2 L (zR1 q) := by
        intro J2 v4 v5 c2 f2 k hk hk2
        obtain ⟨-, -, rX2, -⟩ := stat J2 f2
        have x6' : J2 X 6 = nI ds.length := by rw [rX2]; exact hds.1
        have hh := h J2 c2 f2
        have dec : ∀ x : Int32, x = nI ds.length → x < nI k := fun x hx => by
          subst hx
          exact (nI_ltI (by omega) (by omega)).mpr hk
        have dd := dec _ x6'
        rcases hX with ⟨x1, x2, x3, x4, y5, y6, x7, x8, x9⟩ | ⟨x1, x2, x3, x4, y5, y6, x7, x8, x9⟩ | ⟨x1, x2, x3, x4, y5, y6, x7, x8, x9⟩ <;> (
          subst x1 x2 x3 x4 y5 y6 x7 x8 x9
          exact b154_2 (And.intro (fun _ => b154_93 hh) (fun z => absurd dd z)))
      have jc' := jc
      rw [ei, List.take_length] at jc'
      have bump : ∀ (J2 : zI) (v4 v5 : Option Value), kC g (sRefAll g s.2.2 ds em c) O B P J2 → zFr (tCh O B P) I J2 → zQ G 154 (n + 3) post 87 [some (.ref X), some (.ref O), some (.ref RO), some (.int (nI i)), v4, v5] [] J2 L (zR1 q) := by
        intro J2 v4 v5 c2 f2
        have qq := stop J2 v4 v5 c2 f2 (i + 1) (by omega) (by omega)
        rw [← nI_1] at qq
        rcases hX with ⟨x1, x2, x3, x4, y5, y6, x7, x8, x9⟩ | ⟨x1, x2, x3, x4, y5, y6, x7, x8, x9⟩ | ⟨x1, x2, x3, x4, y5, y6, x7, x8, x9⟩ <;> (
          subst x1 x2 x3 x4 y5 y6 x7 x8 x9
          exact b154_87 qq)
      have at36 : i < 20 → ∀ v4 v5, zQ G 154 (n + 3) post 36 [some (.ref X), some (.ref O), some (.ref RO), some (.int (nI i)), v4, v5] [] J L (zR1 q) := by
        intro hi20 v4 v5
        cases em with
        | none =>
          have x7' : J X 7 = -1 := by rw [rX]; exact hsk
          have bb := bump J (some (.int (-1))) (some (.int (-1))) jc' jf
          have slot := fun post' hp => k_slotOf (G := G) (n := n + 2) (I := J) (L := L) (q := q) (post := post') (x := -1) LJ (fun p e _ _ => absurd e.symm (zon_ne (by have := sR_lt hg ‹sR g p›; omega))) (fun _ => hp)
          have oo : zQ G 154 (n + 3) post 40 [some (.ref X), some (.ref O), some (.ref RO), some (.int (nI i)), v4, v5] [.int (-1)] J L (zR1 q) := by
            rcases hX with ⟨x1, x2, x3, x4, y5, y6, x7, x8, x9⟩ | ⟨x1, x2, x3, x4, y5, y6, x7, x8, x9⟩ | ⟨x1, x2, x3, x4, y5, y6, x7, x8, x9⟩ <;> (
              subst x1 x2 x3 x4 y5 y6 x7 x8 x9
              exact b154_40 (slot _ (And.intro (fun _ => bb) (fun z => absurd (by decide) z))))
          rw [← x7'] at oo
          rcases hX with ⟨x1, x2, x3, x4, y5, y6, x7, x8, x9⟩ | ⟨x1, x2, x3, x4, y5, y6, x7, x8, x9⟩ | ⟨x1, x2, x3, x4, y5, y6, x7, x8, x9⟩ <;> (
            subst x1 x2 x3 x4 y5 y6 x7 x8 x9
            exact b154_36 oo)
        | some b =>
          obtain ⟨p, p1, p2, p3, p4⟩ := hsk
          have x7' : J X 7 = nI p := by rw [rX]; exact p1
          have ho : (sRefs g s.2.2 (ds.take i) c).2.1 b = true := by rw [s2]; exact hem b rfl
          have oo := one (sRefs g s.2.2 (ds.take i) c) i p b J s1 ho jc jf p2 p3 p4 (by omega) (fun J2 v4 v5 c2 f2 => bump J2 v4 v5 (by rw [ei, List.take_length] at c2; exact c2) f2) v4 v5
          rw [← x7'] at oo
          rcases hX with ⟨x1, x2, x3, x4, y5, y6, x7, x8, x9⟩ | ⟨x1, x2, x3, x4, y5, y6, x7, x8, x9⟩ | ⟨x1, x2, x3, x4, y5, y6, x7, x8, x9⟩ <;> (
            subst x1 x2 x3 x4 y5 y6 x7 x8 x9
            exact b154_36 oo)
      have full : 20 ≤ i → post none J L (zR1 q) := by
        intro z
        have e0 : em = none := by
          cases em with
          | none => rfl
          | some b => have := hem20 (fun w => by cases w); omega
        subst e0
        exact h J jc' jf
      have dec : ∀ x : Int32, x = nI ds.length → ¬ x < nI i ∧ x ≤ nI i := fun x hx => by
        subst hx
        rw [ei]
        exact ⟨Int32.lt_irrefl, Int32.le_refl _⟩
      have dd := dec _ x6
      rcases hX with ⟨x1, x2, x3, x4, y5, y6, x7, x8, x9⟩ | ⟨x1, x2, x3, x4, y5, y6, x7, x8, x9⟩ | ⟨x1, x2, x3, x4, y5, y6, x7, x8, x9⟩ <;> (
        subst x1 x2 x3 x4 y5 y6 x7 x8 x9
        exact b154_2 (And.intro (fun z => absurd z dd.1) (fun _ => pk_le 20 i (fun z => b154_93 (full z)) (fun z => And.intro (fun _ => at36 z _ _) (fun y => absurd dd.2 y)) rfl rfl (by omega) (by omega))))
    | succ j ih =>
      intro i J v4 v5 hi jc jf
      have hil : i < ds.length := by omega
      have eg := List.getElem?_eq_getElem hil
      generalize hdi : ds[i] = d at eg
      obtain ⟨p, q1, q2, q3, q4, q5⟩ := hds.2 i d eg
      obtain ⟨s1, s2⟩ := sRefs_in hg (x := s.2.2) (ds.take i) c hin (fun d hx => hd d (take_mem hx))
      obtain ⟨LJ, rJ, rX, rA⟩ := stat J jf
      have x6 : J X 6 = nI ds.length := by rw [rX]; exact hds.1
      have aA : J A i = nI p := by rw [rA]; exact q1
      have ho : (sRefs g s.2.2 (ds.take i) c).2.1 d.1 = true := by rw [s2]; exact hd d (List.mem_of_getElem? eg)
      have oo := one (sRefs g s.2.2 (ds.take i) c) i p d.1 J s1 ho jc jf q2 q3 q4 (by omega) (fun J2 v4 v5 c2 f2 => by
        have qq := ih (i + 1) J2 v4 v5 (by omega) (by rw [take_snoc eg, sRefs_one]; exact c2) f2
        rw [← nI_1] at qq
        rcases hX with ⟨x1, x2, x3, x4, y5, y6, x7, x8, x9⟩ | ⟨x1, x2, x3, x4, y5, y6, x7, x8, x9⟩ | ⟨x1, x2, x3, x4, y5, y6, x7, x8, x9⟩ <;> (
          subst x1 x2 x3 x4 y5 y6 x7 x8 x9
          exact b154_87 qq)) v4 v5
      have dec : ∀ x : Int32, x = nI ds.length → ¬ x < nI i ∧ ¬ x ≤ nI i := fun x hx => by
        subst hx
        exact ⟨fun z => by have := (nI_ltI (by omega) (by omega)).mp z; omega, fun z => by have := (nI_leI (by omega) (by omega)).mp z; omega⟩
      have dd := dec _ x6
      have d20 : ¬ (Int32.ofNat 20 : Int32) ≤ nI i := fun z => by
        have := (nI_leI (a := 20) (by omega) (by omega)).mp z
        omega
      have vi : vp_in (nI i) 20 := vp_in_nI (by omega) (by decide)
      have hcl : (nI i).toNatClampNeg = i := nI_clamp (by omega)
      rcases hX with ⟨x1, x2, x3, x4, y5, y6, x7, x8, x9⟩ | ⟨x1, x2, x3, x4, y5, y6, x7, x8, x9⟩ | ⟨x1, x2, x3, x4, y5, y6, x7, x8, x9⟩ <;> (
        subst x1 x2 x3 x4 y5 y6 x7 x8 x9
        refine b154_2 (And.intro (fun z => absurd z dd.1) (fun _ => And.intro (fun z => absurd z d20) (fun _ => And.intro (fun z => absurd z dd.2) (fun _ => And.intro vi ?_))))
        rw [hcl, aA]
        exact oo)
  have kk := key ds.length 0 I none none (by omega) hc (zFr_0 _ _)
  rcases hX with ⟨x1, x2, x3, x4, y5, y6, x7, x8, x9⟩ | ⟨x1, x2, x3, x4, y5, y6, x7, x8, x9⟩ | ⟨x1, x2, x3, x4, y5, y6, x7, x8, x9⟩ <;> (
    subst x1 x2 x3 x4 y5 y6 x7 x8 x9
    exact zin0 rfl rfl rfl (b154_0 kk))
end
