-- ===== calls on both: teach, whole =====
def tBst (b m : Nat) (bst : zbs) (l6 : Int64) (i8 : Int32) : Prop := match bst with
  | none => l6 = -1 ∧ i8 = -1
  | some x => x.1 < 2 ^ 62 ∧ l6 = lN x.1 ∧ ∃ ob, ob < 27 ∧ tOrd ob m = true ∧ i8 = nI ob ∧ x.2 = tLs b ob m
section
variable {G : zG} {n : Nat} {I : zI} {L : zL} {R : zR} {q : zq} {post : zPo} {g : zg} {c : sC} {fr : Nat → Nat} {nr : Nat} {rl : zrl} {ru : Option Nat} {nf : Nat} {fo : Nat → zfo} {en : Nat → Int32} {tx : Nat → Nat} {tn : Nat} {kp : Nat → Bool} {kc : Nat → sC} {wa : List zwt} {ro : List Int64} {t : Nat}
theorem wOk_Tc : wOk tTc := ⟨by decide, by decide, fun k => ⟨rfl, rfl, rfl, rfl, rfl, rfl⟩, fun k => ⟨rfl, rfl, rfl, rfl, rfl, rfl⟩, fun k => ⟨rfl, rfl, rfl, rfl⟩⟩
set_option maxHeartbeats 1000000 in
theorem w_teach {x y z : Int32} (h : wB g c fr nr rl ru nf fo en tx tn kp kc wa ro t I L) (ht : t < 2 ^ 29) : zC G (n + 300) 285 [.ref 40, .int x, .int y, .int z] I L (zR1 q) (wPo G (n + 300) 116 [.ref 0, .int x, .int y, .int z] t) := by
  obtain ⟨hM, hC⟩ := h
  have hFs := hC.2.2.2.2.2.2.1
  have n8 := hFs.1
  have p8 : 2 ^ nf ≤ 2 ^ 8 := Nat.pow_le_pow_right (by decide) n8
  have hg0 := hM.1.1.1
  have gEM : ∀ {c' : sC} {ro' : List Int64} {J : zI} {K : zL}, wM g c' fr nr rl ru nf fo en tx tn kp kc wa ro' J K → gE g fr nr rl ru nf fo J K := fun h => ⟨h.1.1, h.1.2, h.2.2.1, h.2.2.2.2.1, h.2.2.2.1, h.2.2.2.2.2.2.2.2.2.2⟩
  have no : (∀ b ng te, ¬ xTeach nf x y z b ng te) → ∀ v4 v5 v6 v7 v8 v9 v10 v11, zQ G 285 (n + 299) (wPo G (n + 300) 116 [.ref 0, .int x, .int y, .int z] t) 48 [some (.ref 40), some (.int x), some (.int y), some (.int z), v4, v5, v6, v7, v8, v9, v10, v11] [] I L (zR1 q) := fun w v4 v5 v6 v7 v8 v9 v10 v11 => b285_48 ⟨⟨_, rfl⟩, q, rfl, c_teach3 (n := n + 221) (gEM hM) hM.2.1.2 hM.2.1.1 (fun b ng te hx => absurd hx (w b ng te)) (fun _ => ⟨rfl, ⟨q, rfl⟩, wE_34 hM hC (by omega)⟩)⟩
  refine zin0 rfl rfl rfl (b285_0 (w_foeAt hFs (fun te ez hte => ?_) (fun zo => c_bitCount (no (fun b ng te w => xOut_no w.2.2.2.2.2.2.2 (by omega) w.2.2.1 zo) _ _ _ _ _ _ _ _))))
  subst ez
  refine c_bitCount ?_
  refine And.intro (fun w => no (fun b ng te w2 => ?_) _ _ _ _ _ _ _ _) (fun x0 => ?_)
  · have := w2.2.2.2.2.1
    have e1 := w2.1
    have b1 := w2.2.2.2.1
    rw [e1] at w
    exact nI_nle (n := b) b1 (by omega) w
  have e1 : (1 : Int32) <<< (I 40 12 &&& 31) = nI (2 ^ nf) := by rw [hFs.2.1]; exact zshl1 (by omega)
  obtain ⟨b, hb31, eb⟩ := nI_of (x := x) (fun w => x0 (Int32.le_of_lt w))
  subst eb
  have b1 : 1 ≤ b := by
    by_cases c0 : b = 0
    · subst c0
      exact absurd (by decide) x0
    · omega
  refine pk_le (2 ^ nf) b (fun w => no (fun b2 ng te w2 => ?_) _ _ _ _ _ _ _ _) (fun hb => ?_) e1 rfl (by omega) hb31
  · have := nI_inj hb31 (by have := w2.2.2.2.2.1; omega) w2.1
    have := w2.2.2.2.2.1
    omega
  rw [sBC_eq b (by omega)]
  have bl : sBits b ≤ 8 := sCB_le _ 8
  have ub : ∀ b2 ng2 te2, xTeach nf (nI b) y (nI te) b2 ng2 te2 → b2 = b ∧ te2 = te := fun b2 ng2 te2 w => ⟨(nI_inj hb31 (by have := w.2.2.2.2.1; omega) w.1).symm, (nI_inj (by omega) (by have := w.2.2.2.2.2.2.2; omega) w.2.2.1 |>.symm)⟩
  refine pk_lt 3 (sBits b) (fun w => no (fun b2 ng te w2 => ?_) _ _ _ _ _ _ _ _) (fun h3 => ?_) rfl rfl (by omega) (by omega)
  · have := w2.2.2.2.2.2.1
    rw [(ub _ _ _ w2).1] at this
    omega
  rcases pk_ix y (n := 51) (by decide) with c0 | c0 | ⟨ng, hng, rfl⟩
  · exact And.intro (fun _ => no (fun b2 ng te w2 => xOut_no (k := ng) (n := 51) (by have := w2.2.2.2.2.2.2.1; omega) (by decide) w2.2.1 (.inl c0)) _ _ _ _ _ _ _ _) (fun w => absurd c0 w)
  · exact And.intro (fun w => no (fun b2 ng te w2 => xOut_no (k := ng) (n := 51) (by have := w2.2.2.2.2.2.2.1; omega) (by decide) w2.2.1 (.inr c0)) _ _ _ _ _ _ _ _) (fun w => And.intro (fun w2 => absurd w2 (xOut_le (m := 50) (by decide) (.inr c0) w)) (fun _ => no (fun b2 ng te w2 => xOut_no (k := ng) (n := 51) (by have := w2.2.2.2.2.2.2.1; omega) (by decide) w2.2.1 (.inr c0)) _ _ _ _ _ _ _ _))
  refine And.intro (fun w => absurd w (nI_pos (by omega))) (fun _ => pk_le ng 50 (fun _ => b285_50 ?_) (fun w => absurd w (by omega)) rfl rfl (by omega) (by omega))
  refine w_lay hC (fun I1 C1 hL ho => ?_)
  have M1 := wM_lo hM (fun o w => ho o (by omega)) (fun _ _ => rfl)
  have hg := hL.1.1
  have hin := M1.2.1.2
  have b256 : b < 256 := by omega
  have m0 : sBits b ≠ 0 := fun w => by
    have := (sBits_0 b b256).mp w
    omega
  have hX2 : xTeach nf (nI b) (nI ng) (nI te) b ng te := ⟨rfl, rfl, rfl, b1, hb, h3, by omega, hte⟩
  have hFb := kFb_f (f := te) (by omega)
  have hall := tOs_all (nf := nf) (by omega) hb (by omega) h3
  obtain ⟨⟨v, l⟩, hB, hBl, hBv, hBf⟩ := sTB_some (g := g) (fr := fr) (rl := rl) (ru := ru) (fo := fo) (c := c) (ng := ng) (te := te) hb n8 h3
  have hB2 : (tOs b (sBits b) 27).foldl (sUp (sTv g fr rl ru fo ng te c)) none = some (v, l) := by
    rw [hall]
    exact hB
  -- at the end
  have fin : ∀ (J : zI) (K : zL) (q' : zq) (t' : Nat), t' ≤ t + 101 → wC g c fr nr rl ru nf fo en tx tn kp kc wa ((tellL l ++ [lN v])) t' J K → (∀ o, o < 40 → J o = I1 o) → (∀ o, o < 40 → K o = L o) → wPo G (n + 300) 116 [.ref 0, .int (nI b), .int (nI ng), .int (nI te)] t (some (.int (nI (sBits b)))) J K (zR1 q') := fun J K q' t' ht' CJ jo ko => by
    have M3 := wM_lo M1 (I' := J) (L' := K) jo ko
    refine ⟨⟨_, rfl⟩, q', rfl, c_teach3 (n := n + 221) (gEM M3) hin M3.2.1.1 (fun b2 ng2 te2 hx v2 l2 hB3 _ I4 L4 g4 mc4 mk4 m4 _ f4 l4 => ?_) (fun w => absurd hX2 (w b ng te))⟩
    have eb := (ub _ _ _ hx).1
    have et := (ub _ _ _ hx).2
    have en2 : ng2 = ng := (nI_inj (by omega) (by have := hx.2.2.2.2.2.2.1; omega) hx.2.1).symm
    subst eb et en2
    rw [hB] at hB3
    cases hB3
    exact ⟨rfl, ⟨q', rfl⟩, ⟨g, c, fr, nr, rl, ru, nf, fo, en, tx, tn, kp, kc, wa, _, t', ht', wM_t M3 f4 wOk_Tc (fun s _ => f4 6 s rfl) mk4 (l4 13 (by decide) (by decide) (by decide) (by decide) (by decide)) mc4 hin (fun k hk => (f4 15 k rfl).trans (M3.2.2.2.2.2.1 k hk)) m4 CJ.2.2.2.2.2.2.2.2.2.2.1.2.1 g4.2.2.2.2.2, wC_hi CJ (hi_of (fun _ _ => rfl) f4) (l4 97 (by decide) (by decide) (by decide) (by decide) (by decide))⟩⟩
  -- the row told
  have tell : ∀ (J : zI) (K : zL) (q' : zq) (t' : Nat) (ob : Nat) (v9 v10 v11 : Option Value), t' ≤ t + 101 → wC g c fr nr rl ru nf fo en tx tn kp kc wa ro t' J K → (∀ o, o < 40 → J o = I1 o) → (∀ o, o < 40 → K o = L o) → ob < 27 → tOrd ob (sBits b) = true → l = tLs b ob (sBits b) → zQ G 285 (n + 299) (wPo G (n + 300) 116 [.ref 0, .int (nI b), .int (nI ng), .int (nI te)] t) 159 [some (.ref 40), some (.int (nI b)), some (.int (nI ng)), some (.int (nI te)), some (.ref (131 + 5 * te)), some (.int (nI (sBits b))), some (.long (lN v)), none, some (.int (nI ob)), v9, v10, v11] [] J K (zR1 q') := fun J K q' t' ob v9 v10 v11 ht' CJ jo ko hob hod hl => by
    have key : ∀ (j i : Nat) (J2 : zI) (K2 : zL), i + j = sBits b → kRow (tellL (tLs b ob i)) J2 K2 → (∀ o, o ≠ 96 → J2 o = J o) → (∀ o, o ≠ 97 → K2 o = K o) → zQ G 285 (n + 299) (wPo G (n + 300) 116 [.ref 0, .int (nI b), .int (nI ng), .int (nI te)] t) 169 [some (.ref 40), some (.int (nI b)), some (.int (nI ng)), some (.int (nI te)), some (.ref (131 + 5 * te)), some (.int (nI (sBits b))), some (.long (lN v)), none, some (.int (nI ob)), some (.int (nI i)), v10, v11] [] J2 K2 (zR1 q') := by
      intro j
      induction j with
      | zero =>
        intro i J2 K2 hi r j2 k2
        have ei : i = sBits b := by omega
        subst ei
        refine b285_169 (pk_le (sBits b) (sBits b) (fun _ => b285_201 ?_) (fun w => absurd w (by omega)) rfl rfl (by omega) (by omega))
        have ll : (tellL (tLs b ob (sBits b))).length = sBits b := by
          rw [← hl]
          unfold tellL
          rw [List.length_map]
          exact hBl
        refine k_add r (by omega) (fun r2 => fin _ _ q' t' ht' (wC_ro CJ (fun o w => by rw [zup_ne w]; exact j2 o w) (by rw [hl]; exact r2)) (fun o w => by rw [zup_ne (by omega)]; exact (j2 o (by omega)).trans (jo o w)) (fun o w => by rw [zup_ne (by omega)]; exact (k2 o (by omega)).trans (ko o w)))
      | succ j ih =>
        intro i J2 K2 hi r j2 k2
        have him : i < sBits b := by omega
        have d := tOrd_dg (sBits b) (by omega) ob hob hod i him
        obtain ⟨nb1, nb2⟩ := tNb_all nf (by omega) b hb (tDg ob i) (by omega)
        have r32 := r.2.1
        have ll : (tellL (tLs b ob i)).length = i := by
          unfold tellL
          rw [List.length_map]
          have : ∀ i, (tLs b ob i).length = i := by
            intro i
            induction i with
            | zero => rfl
            | succ i ih2 => rw [tLs, snoc_len, ih2]
          exact this i
        refine b285_169 (pk_le (sBits b) i (fun w => absurd w (by omega)) (fun _ => k_atOrder hob (by omega) (k_nthBit rfl (by omega) rfl (by omega) ?_)) rfl rfl (by omega) (by omega))
        rw [nb1]
        refine k_add r (by omega) (fun r2 => ?_)
        have qq := ih (i + 1) _ _ (by omega) (by
          rw [tLs]
          unfold tellL at r2 ⊢
          rw [List.map_append]
          exact r2) (fun o w => by rw [zup_ne w]; exact j2 o w) (fun o w => by rw [zup_ne w]; exact k2 o w)
        rw [← nI_1] at qq
        exact qq
    exact b285_159 (k_begin (fun r0 => key (sBits b) 0 _ _ (by omega) r0 (fun o w => zup_ne w) (fun _ _ => rfl)))
  -- the loop over the orders
  have main : ∀ (j o : Nat) (bst : zbs) (l6 : Int64) (i8 : Int32) (J : zI) (K : zL) (q' : zq) (t' : Nat) (v10 v11 : Option Value), o + j = 27 → t' ≤ t + o → bst = (tOs b (sBits b) o).foldl (sUp (sTv g fr rl ru fo ng te c)) none → tBst b (sBits b) bst l6 i8 → wC g c fr nr rl ru nf fo en tx tn kp kc wa ro t' J K → (∀ o, ¬ (wSp o ∨ o = 89 ∨ o = 90 ∨ o = 91) → J o = I1 o) → (∀ o, o < 40 → K o = L o) → zQ G 285 (n + 299) (wPo G (n + 300) 116 [.ref 0, .int (nI b), .int (nI ng), .int (nI te)] t) 68 [some (.ref 40), some (.int (nI b)), some (.int (nI ng)), some (.int (nI te)), some (.ref (131 + 5 * te)), some (.int (nI (sBits b))), some (.long l6), none, some (.int i8), some (.int (nI o)), v10, v11] [] J K (zR1 q') := by
    intro j
    induction j with
    | zero =>
      intro o bst l6 i8 J K q' t' v10 v11 ho ht' hbs hB4 CJ jo ko
      have eo : o = 27 := by omega
      subst eo
      rw [hB2] at hbs
      subst hbs
      obtain ⟨-, e6, ob, ob1, ob2, ob3, ob4⟩ := hB4
      subst e6 ob3
      exact b285_68 (pk_le 27 27 (fun _ => tell J K q' t' ob _ _ _ (by omega) CJ (fun o w => jo o (by unfold wSp; omega)) ko ob1 ob2 ob4) (fun w => absurd w (by omega)) rfl rfl (by omega) (by omega))
    | succ j ih =>
      intro o bst l6 i8 J K q' t' v10 v11 ho ht' hbs hB4 CJ jo ko
      have ho27 : o < 27 := by omega
      have hLJ : kLay g J := kLay_of hL (fun o w1 w2 => jo o (by unfold wSp; omega))
      refine b285_68 (pk_le 27 o (fun w => absurd w (by omega)) (fun _ => k_isOrder ho27 (by omega) m0 (zbo_eq (fun d => b285_153 ?_) (fun d => ?_))) rfl rfl (by omega) (by omega))
      · have qq := ih (o + 1) bst l6 i8 J K q' t' v10 v11 (by omega) (by omega) (by rw [tOs, if_neg (by rw [d]; decide)]; exact hbs) hB4 CJ jo ko
        rw [← nI_1] at qq
        exact qq
      · refine k_teachBy CJ hLJ hin hb rfl (by omega) ho27 d (by omega) (fun I2 L2 kc2 o2 l2 => ?_)
        have C2 := wC_sq CJ o2 l2
        have hL2 : kLay g I2 := kLay_of hLJ (fun o w1 w2 => o2 o (by unfold wSp; omega))
        have hF2 := C2.2.2.2.2.2.2.1
        have hin2 := sTg_in (g := g) (fr := fr) (rl := rl) (ru := ru) (fo := fo) (n := ng) hg (tLs b o (sBits b)) c hin
        refine k_look (O := 65) (B := 66) (P := 67) (Or.inr (Or.inl ⟨rfl, rfl, rfl⟩)) hFb (hF2.2.2 te hte).1 hin2 hL2 C2.2.2.2.2.1 kc2 (hF2.2.2 te hte).2 C2.2.2.2.2.2.2.2.2.2.2.2 (by omega) (fun I3 L3 od k3 o3 l3 => ?_)
        have C3 := wC_lk C2 k3 o3 l3
        have hg3 : kG g I3 := C3.1.1
        have le2 := sOd_le g fr (sTg g fr rl ru fo ng (tLs b o (sBits b)) c) (fo te) (sFirst g) 2
        have le1 := sOd_le g fr (sTg g fr rl ru fo ng (tLs b o (sBits b)) c) (fo te) (sFirst g) 1
        have jo3 : ∀ o, ¬ (wSp o ∨ o = 89 ∨ o = 90 ∨ o = 91) → I3 o = I1 o := fun o w => (o3 o (by omega) (by omega) (by omega)).trans ((o2 o (fun w2 => w (Or.inl w2))).trans (jo o w))
        have ko3 : ∀ o, o < 40 → L3 o = L o := fun o w => (l3 o (by omega)).trans ((funext fun k => l2 o k (by omega)).trans (ko o w))
        have ev : (2 : Int64) * (I3 90 (3 * sFirst g + 2)).toInt64 + (I3 90 (3 * sFirst g + 1)).toInt64 = lN (sTv g fr rl ru fo ng te c (tLs b o (sBits b))) := by
          rw [od 2 (by decide), od 1 (by decide), nI_l (by omega), nI_l (by omega)]
          show lN 2 * _ + _ = _
          rw [lN_mul, lN_add]
          rfl
        have vle : sTv g fr rl ru fo ng te c (tLs b o (sBits b)) ≤ 3000000000 := by
          unfold sTv
          omega
        refine k_of (e := 2) rfl hg3 (by decide) (k_of (e := 1) rfl hg3 (by decide) ?_)
        show (lg_cmp ((2 : Int64) * (I3 90 (3 * sFirst g + 2)).toInt64 + (I3 90 (3 * sFirst g + 1)).toInt64) l6 ≤ 0 → _) ∧ (¬ lg_cmp ((2 : Int64) * (I3 90 (3 * sFirst g + 2)).toInt64 + (I3 90 (3 * sFirst g + 1)).toInt64) l6 ≤ 0 → _)
        rw [ev]
        have step : ∀ (bst' : zbs) (l6' : Int64) (i8' : Int32) (v10 v11 : Option Value), bst' = sUp (sTv g fr rl ru fo ng te c) bst (tLs b o (sBits b)) → tBst b (sBits b) bst' l6' i8' → zQ G 285 (n + 299) (wPo G (n + 300) 116 [.ref 0, .int (nI b), .int (nI ng), .int (nI te)] t) 153 [some (.ref 40), some (.int (nI b)), some (.int (nI ng)), some (.int (nI te)), some (.ref (131 + 5 * te)), some (.int (nI (sBits b))), some (.long l6'), none, some (.int i8'), some (.int (nI o)), v10, v11] [] I3 L3 (zR1 (some 65, some (131 + 5 * te), some 69)) := fun bst' l6' i8' v10 v11 e1 e2 => by
          have qq := ih (o + 1) bst' l6' i8' I3 L3 (some 65, some (131 + 5 * te), some 69) (t' + 1) v10 v11 (by omega) (by omega) (by rw [tOs, if_pos d, List.foldl_append, ← hbs, e1]; rfl) e2 C3 jo3 ko3
          rw [← nI_1] at qq
          exact b285_153 qq
        cases bst with
        | none =>
          obtain ⟨e6, -⟩ := hB4
          subst e6
          refine And.intro (fun w => ?_) (fun w => step (some (sTv g fr rl ru fo ng te c (tLs b o (sBits b)), tLs b o (sBits b))) _ _ _ _ rfl ⟨by omega, rfl, o, ho27, d, rfl, rfl⟩)
          have w2 := Int64.le_iff_toInt_le.mp ((lg_cmp_le _ _).mp w)
          rw [pk_lT (by omega), show (-1 : Int64).toInt = -1 from by decide] at w2
          omega
        | some bx =>
          obtain ⟨bb, e6, ob, ob1, ob2, ob3, ob4⟩ := hB4
          subst e6
          by_cases c1 : sTv g fr rl ru fo ng te c (tLs b o (sBits b)) ≤ bx.1
          · refine And.intro (fun _ => step (some bx) _ _ _ _ (by show _ = if _ then _ else _; rw [if_pos c1]) ⟨bb, rfl, ob, ob1, ob2, ob3, ob4⟩) (fun w => absurd ((lg_cmp_le _ _).mpr ((pk_lLE (by omega) (by omega)).mpr c1)) w)
          · exact And.intro (fun w => absurd ((pk_lLE (by omega) (by omega)).mp ((lg_cmp_le _ _).mp w)) c1) (fun w => step (some (sTv g fr rl ru fo ng te c (tLs b o (sBits b)), tLs b o (sBits b))) _ _ _ _ (by show _ = if _ then _ else _; rw [if_neg c1]) ⟨by omega, rfl, o, ho27, d, rfl, rfl⟩)
  exact main 27 0 none (-1) (-1) I1 L q t none none (by omega) (by omega) rfl ⟨rfl, rfl⟩ C1 (fun _ _ => rfl) (fun _ _ => rfl)
end
