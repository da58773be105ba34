-- ===== the reference: teach, its longs =====
section
variable {G : zG} {n : Nat} {I : zI} {L : zL} {q : zq} {post : zPo} {g : zg} {c : sC} {w : uW} {fr : Nat → Nat} {f nr nf : Nat} {F : zfo} {rl : zrl} {ru : Option Nat} {en : Nat → Int32} {fo : Nat → zfo}
theorem c_teach3 {x y z : Int32} (he : gE g fr nr rl ru nf fo I L) (hin : cIn g c) (hc : mC c I) (h1 : ∀ b ng te, xTeach nf x y z b ng te → ∀ (v : Nat) (l : List Nat), sTB g fr rl ru nf fo b ng te c = some (v, l) → l.length = sBits b → ∀ (I' : zI) (L' : zL), gE g fr nr rl ru nf fo I' L' → mC c I' → (∀ j c', j < 3 → mK j c' I → mK j c' I') → mRow (tellL l ++ [lN v]) I' L' → I' 0 34 = 0 → zFr tTc I I' → (∀ o, o ≠ 0 → o ≠ 17 → o ≠ 25 → o ≠ 27 → o ≠ 28 → L' o = L o) → post (some (.int (nI (sBits b)))) I' L' (zR1 q)) (h0 : (∀ b ng te, ¬ xTeach nf x y z b ng te) → post (some (.int (-1))) (zup I 0 34 0) L (zR1 q)) : zC G (n + 79) 116 [.ref 0, .int x, .int y, .int z] I L (zR1 q) post := by
  have h8 := he.2.2.2.1.1
  have h23 : I 0 23 = nI nf := he.2.2.2.1.2.1
  have hp8 : 2 ^ nf ≤ 256 := Nat.pow_le_pow_right (n := 2) (by decide) h8
  have hp1 : 1 ≤ 2 ^ nf := Nat.pow_pos (by decide)
  have e1 : (1 : Int32) <<< (zup I 0 34 0 0 23 &&& 31) - 1 = nI (2 ^ nf - 1) := by
    rw [show zup I 0 34 0 0 23 = I 0 23 from rfl, h23, zshl1 (by omega)]
    exact pk_sub (b := 1) hp1
  have zero : (∀ b ng te, ¬ xTeach nf x y z b ng te) → zQ G 116 (n + 78) post 47 [some (.ref 0), some (.int x), some (.int y), some (.int z), none, none] [] (zup I 0 34 0) L (zR1 q) := fun w => b116_47 (h0 w)
  refine zin0 rfl rfl rfl (b116_0 ?_)
  show zC G (n + 78) 2 [.int x, .int 1, .int ((1 : Int32) <<< (zup I 0 34 0 0 23 &&& 31) - 1)] (zup I 0 34 0) L (zR1 q) _
  rw [e1]
  refine c_in1N (m := 2 ^ nf - 1) rfl (by omega) (fun b hb hb1 hb2 => And.intro (fun w => absurd w (by decide)) (fun _ => ?_)) (fun hb => And.intro (fun _ => zero fun b ng te w => ?_) (fun w => absurd rfl w))
  · subst hb
    have hb256 : b < 256 := by omega
    have hbl : sBits b ≤ 8 := sCB_le _ 8
    have ebc := sBC_eq b hb256
    refine c_bitCount ?_
    rw [ebc]
    refine pk_lt 3 (sBits b) (fun w => zero fun b' ng te w2 => ?_) (fun w => ?_) rfl rfl (by omega) (by omega)
    · have e := nI_inj (by omega) (by have := w2.2.2.2.2.1; omega) w2.1
      have := w2.2.2.2.2.2.1
      subst e
      omega
    · refine c_in0N (m := 50) rfl (by omega) (fun ng hng hng2 => And.intro (fun w => absurd w (by decide)) (fun _ => ?_)) (fun ho => And.intro (fun _ => zero fun b' ng te w2 => absurd ho (xOut_no (k := ng) (by have := w2.2.2.2.2.2.2.1; omega) (by omega) w2.2.1)) (fun w => absurd rfl w))
      subst hng
      rcases pk_ix z (n := nf) (by omega) with cz | cz | ⟨te, hte, rfl⟩
      · refine c_isFoe0 h8 h23 (Or.inl cz) (And.intro (fun w => absurd rfl w) (fun _ => zero fun b' ng' te w2 => ?_))
        exact xOut_no (n := nf) w2.2.2.2.2.2.2.2 (by omega) w2.2.2.1 (Or.inl cz)
      · refine c_isFoe0 h8 h23 (Or.inr cz) (And.intro (fun w => absurd rfl w) (fun _ => zero fun b' ng' te w2 => ?_))
        exact xOut_no (n := nf) w2.2.2.2.2.2.2.2 (by omega) w2.2.2.1 (Or.inr cz)
      · refine c_isFoe1 hte h8 h23 (And.intro (fun _ => b116_49 ?_) (fun w => absurd w (by decide)))
        obtain ⟨⟨v, l⟩, hB, hBl, hBv, hBf⟩ := sTB_some (g := g) (fr := fr) (rl := rl) (ru := ru) (fo := fo) (c := c) (ng := ng) (te := te) (show b < 2 ^ nf by omega) h8 w
        have qq := h1 b ng te ⟨rfl, rfl, rfl, hb1, by omega, w, hng2, hte⟩ v l hB hBl
        dsimp only at hBl hBv hBf
        refine c_keepIn (i := 3) (by omega) (mC_34 hc) fun I1 hk1 hoth hfk => ?_
        have hfE : zFr tE2 I I1 := zFr_tr (zFr_up (zFr_0 _ _) rfl) fun o k w2 => hfk o k (by
          unfold tE2 at w2
          unfold tK
          simp only [Bool.or_eq_false_iff] at w2 ⊢
          exact ⟨⟨w2.1.1.1.1.1.1.2, w2.1.1.1.1.1.2⟩, w2.1.1.1.1.2⟩)
        have hfu : zFr tTe I1 (zup I1 0 64 0) := zFr_up (zFr_0 _ _) rfl
        have he1 := gE_fr he (zFr_tr hfE (tTe_tE2 hfu)) rfl
        refine And.intro ⟨rfl, rfl⟩ ?_
        show zC G (n + 78) 115 [.ref 0, .int (nI b), .int (nI ([] : List Nat).length), .int (nI ng), .int (nI te)] (zup I1 0 64 0) L (zR1 q) _
        refine c_teachOrders hin hte hng2 3 (n + 78) b [] none (zup I1 0 64 0) L _ (by omega) he1 (mK_of hk1 (zup_ne (by decide)) (zup_ne (by decide)) (zup_ne (by decide))) (by omega) w (by show 0 + sBits b ≤ 3; omega) (fun f hf => by cases hf) (fun j y hy => by cases hy) zup_self fun I2 L2 hb2 hf2 h332 hl2 => ?_
        have hb2 : mTb (sTB g fr rl ru nf fo b ng te c) I2 L2 := hb2
        rw [hB] at hb2
        have hk2 : mK 3 c I2 := mK_of hk1 (by rw [zFr_row (o := 30) hf2 fun _ => rfl, zup_ne (by decide)]) (by rw [zFr_row (o := 31) hf2 fun _ => rfl, zup_ne (by decide)]) (by rw [zFr_row (o := 32) hf2 fun _ => rfl, zup_ne (by decide)])
        refine c_bringBack (c := c) (i := 3) (by omega) hk2 fun I3 hc3 hf3 => ?_
        have hf13 : zFr tTe I1 I3 := zFr_tr hfu (zFr_tr hf2 (tP_tTe (tC_tP hf3)))
        have he3 : gE g fr nr rl ru nf fo I3 L2 := gE_fr he (zFr_tr hfE (tTe_tE2 hf13)) (lTe_13 hl2)
        refine c_bitCount ?_
        rw [ebc]
        have e63 : L2 0 63 = lN v := hb2.2.1
        have hb34 : ∀ j y, l[j]? = some y → I3 34 j = nI y := fun j y hy => (hf3 34 j rfl).trans (hb2.2.2.2 j y hy)
        have fin : ∀ (us vs : List Nat), vs ++ us = l → ∀ (I' : zI) (L' : zL), mRow (tellL vs) I' L' → (∀ o k, ¬ (o = 0 ∧ k = 33) → I' o k = I3 o k) → (∀ o, o ≠ 17 → L' o = L2 o) → zQ G 116 (n + 78) post 86 [some (.ref 0), some (.int (nI b)), some (.int (nI ng)), some (.int (nI te)), some (.int (nI (sBits b))), some (.int (nI vs.length))] [] I' L' (zR1 q) := by
          intro us
          induction us with
          | nil =>
            intro vs hv I' L' hr hI hL
            rw [List.append_nil] at hv
            subst hv
            refine b116_86 (pk_le (sBits b) vs.length (fun _ => b116_111 ?_) (fun w2 => absurd w2 (by omega)) rfl rfl (by omega) (by omega))
            show zC G (n + 78) 4 [.ref 0, .long (L' 0 63)] I' L' (zR1 q) _
            rw [hL 0 (by decide), e63]
            refine c_tell hr (by unfold tellL; rw [List.length_map]; omega) fun I5 L5 hr5 hf5 hl5 => ?_
            have hI5 : ∀ o k, ¬ (o = 0 ∧ k = 33) → I5 o k = I3 o k := fun o k w2 => (hf5 o k w2).trans (hI o k w2)
            have hf35 : zFr tT I3 I5 := zFr_tell hI5
            refine qq I5 L5 (gE_fr he3 (tQ_tE2 (tT_tQ hf35)) ?_) ?_ (fun j c' hj hkj => ?_) hr5 ?_ (fun o k w2 => ?_) (fun o w0 w17 w25 w27 w28 => ((hl5 o w17).trans (hL o w17)).trans (funext fun k => hl2 o k w25 w27 w28 (by omega)))
            · rw [hl5 13 (by decide), hL 13 (by decide)]
            · exact mC_Q hc3 (zFr_row hf35 fun _ => rfl) (zFr_row hf35 fun _ => rfl) (fun k _ => hI5 0 k (by omega))
            · have a := hoth j c' (by omega) (by omega) (mK_of hkj (zup_ne (by decide)) (zup_ne (by decide)) (zup_ne (by decide)))
              exact mK_of a (by rw [zFr_row (o := 30) hf35 fun _ => rfl, zFr_row (o := 30) hf13 fun _ => rfl]) (by rw [zFr_row (o := 31) hf35 fun _ => rfl, zFr_row (o := 31) hf13 fun _ => rfl]) (by rw [zFr_row (o := 32) hf35 fun _ => rfl, zFr_row (o := 32) hf13 fun _ => rfl])
            · rw [hI5 0 34 (by omega), hf13 0 34 rfl, hfk 0 34 rfl]
              rfl
            · unfold tTc at w2
              simp only [Bool.or_eq_false_iff] at w2
              rw [hf35 o k w2.2, hf13 o k w2.1.1, hfk o k w2.1.2]
              unfold zup
              by_cases d : o = 0
              · rw [if_pos d, if_neg (fun a => by subst d a; cases w2.2)]
              · rw [if_neg d]
          | cons u us ih =>
            intro vs hv I' L' hr hI hL
            have hlen : vs.length + (us.length + 1) = l.length := by rw [← hv, List.length_append]; rfl
            have eu : I' 34 (nI vs.length).toNatClampNeg = nI u := by
              rw [nI_clamp (by omega), hI 34 _ (by omega)]
              refine hb34 vs.length u ?_
              rw [← hv, List.getElem?_append_right (Nat.le_refl _), Nat.sub_self]
              rfl
            refine b116_86 (pk_le (sBits b) vs.length (fun w2 => absurd w2 (by omega)) (fun _ => And.intro (vp_in_nI (by omega) (by decide)) ?_) rfl rfl (by omega) (by omega))
            show zC G (n + 78) 4 [.ref 0, .long (I' 34 (nI vs.length).toNatClampNeg).toInt64] I' L' (zR1 q) _
            rw [eu]
            refine c_tell hr (by unfold tellL; rw [List.length_map]; omega) fun I5 L5 hr5 hf5 hl5 => ?_
            have q2 := ih (vs ++ [u]) (by rw [List.append_assoc]; exact hv) I5 L5 (by unfold tellL at *; rw [List.map_append]; exact hr5) (fun o k w2 => (hf5 o k w2).trans (hI o k w2)) (fun o ho => (hl5 o ho).trans (hL o ho))
            rw [snoc_len, ← nI_1] at q2
            exact q2
        exact fin l [] rfl (zup I3 0 33 0) L2 (mRow_0 zup_self) (fun o k w2 => by
          unfold zup
          by_cases d : o = 0
          · rw [if_pos d, if_neg (fun a => w2 ⟨d, a⟩)]
          · rw [if_neg d]) (fun _ _ => rfl)
  · have := hb b w.1 w.2.2.2.1
    have := w.2.2.2.2.1
    omega
end
-- ===== calls on both: teach =====
def tIO (o m : Nat) : Nat → Nat → Nat → Bool
  | 0, _, _ => true
  | j + 1, i, seen => if m ≤ i then (if tDg o i = 0 then tIO o m j (i + 1) (seen ||| 2 ^ tDg o i) else false) else if m ≤ tDg o i then false else if seen.testBit (tDg o i) = true then false else tIO o m j (i + 1) (seen ||| 2 ^ tDg o i)
theorem tIO_all : ∀ m, m < 4 → m ≠ 0 → ∀ o, o < 27 → tIO o m 3 0 0 = tOrd o m := by decide +kernel
theorem tDg_9 : ∀ o, o < 27 → ∀ i, i < 3 → tDg o i < 3 := by decide +kernel
theorem sGN_s {g : zg} {fr : Nat → Nat} {rl : zrl} {ru : Option Nat} {F : zfo} : ∀ k c, sGN g fr rl ru F (k + 1) c = (sGm g fr rl ru F (sGN g fr rl ru F k c)).2.1
  | 0, _ => rfl
  | k + 1, c => by
    rw [sGN, sGN_s k]
    rfl
theorem sTg_s {g : zg} {fr : Nat → Nat} {rl : zrl} {ru : Option Nat} {fo : Nat → zfo} {n : Nat} : ∀ (l : List Nat) (f : Nat) (c : sC), sTg g fr rl ru fo n (l ++ [f]) c = sGN g fr rl ru (fo f) n (sTg g fr rl ru fo n l c)
  | [], _, _ => rfl
  | x :: l, f, c => by
    show sTg g fr rl ru fo n (l ++ [f]) (sGN g fr rl ru (fo x) n c) = _
    rw [sTg_s l f]
    rfl
section
variable {G : zG} {n : Nat} {I : zI} {L : zL} {R : zR} {q : zq} {post : zPo} {g : zg} {c : sC} {fr : Nat → Nat} {nr : Nat} {rl : zrl} {ru : Option Nat} {nf : Nat} {fo : Nat → zfo} {en : Nat → Int32} {tx : Nat → Nat} {tn : Nat} {kp : Nat → Bool} {kc : Nat → sC} {wa : List zwt} {ro : List Int64} {t : Nat}
theorem k_atOrder {o i : Nat} (ho : o < 27) (hi : i < 3) (h : post (some (.int (nI (tDg o i)))) I L R) : zC G (n + 1) 302 [.int (nI o), .int (nI i)] I L R post := by
  have e9 : nI o / (9 : Int32) = nI (o / 9) := pk_div (d := 9) (by omega) (by decide) (by decide)
  have e3 : nI o / (3 : Int32) = nI (o / 3) := pk_div (d := 3) (by omega) (by decide) (by decide)
  have m3 : ∀ a, a < 2 ^ 31 → nI a - nI a / (3 : Int32) * 3 = nI (a % 3) := fun a ha => pk_rem (d := 3) ha (by decide) (by decide)
  refine zin0 rfl rfl rfl (b302_0 ?_)
  have c : i = 0 ∨ i = 1 ∨ i = 2 := by omega
  rcases c with rfl | rfl | rfl
  · refine And.intro (fun z => absurd rfl z) (fun _ => And.intro (by decide) ?_)
    rw [e9]
    exact h
  · refine And.intro (fun _ => b302_9 (And.intro (fun z => absurd rfl z) (fun _ => And.intro (by decide) (And.intro (by decide) (b302_25 ?_))))) (fun z => absurd z (by decide))
    rw [e3, m3 _ (by omega)]
    exact h
  · refine And.intro (fun _ => b302_9 (And.intro (fun _ => b302_22 (And.intro (by decide) (b302_25 ?_))) (fun z => absurd z (by decide)))) (fun z => absurd z (by decide))
    rw [m3 _ (by omega)]
    exact h
theorem k_isOrder {o m : Nat} (ho : o < 27) (hm : m < 4) (h0 : m ≠ 0) (h : post (some (.int (zbo (tOrd o m)))) I L R) : zC G (n + 2) 303 [.int (nI o), .int (nI m)] I L R post := by
  have key : ∀ (j i seen : Nat) (v4 : Option Value), i + j = 3 → seen < 2 ^ 9 → tIO o m j i seen = tOrd o m → zQ G 303 (n + 1) post 4 [some (.int (nI o)), some (.int (nI m)), some (.int (nI seen)), some (.int (nI i)), v4] [] I L R := by
    intro j
    induction j with
    | zero =>
      intro i seen v4 hi hs ht
      have e3 : i = 3 := by omega
      subst e3
      rw [← ht] at h
      exact b303_4 (pk_le 3 3 (fun _ => b303_59 (And.intro rfl h)) (fun z => absurd z (by omega)) rfl rfl (by omega) (by omega))
    | succ j ih =>
      intro i seen v4 hi hs ht
      have hi3 : i < 3 := by omega
      have d3 := tDg_9 o ho i hi3
      rw [tIO] at ht
      have yes : tIO o m j (i + 1) (seen ||| 2 ^ tDg o i) = tOrd o m → zQ G 303 (n + 1) post 46 [some (.int (nI o)), some (.int (nI m)), some (.int (nI seen)), some (.int (nI i)), some (.int (nI (tDg o i)))] [] I L R := fun w => by
        have qq := ih (i + 1) (seen ||| 2 ^ tDg o i) (some (.int (nI (tDg o i)))) (by omega) (Nat.or_lt_two_pow hs (Nat.pow_lt_pow_right (by decide) (by omega))) w
        rw [← nI_1, ← zorN, ← zshl1 (show tDg o i < 31 by omega)] at qq
        exact b303_46 qq
      have no : false = tOrd o m → zQ G 303 (n + 1) post 44 [some (.int (nI o)), some (.int (nI m)), some (.int (nI seen)), some (.int (nI i)), some (.int (nI (tDg o i)))] [] I L R := fun w => b303_44 (And.intro rfl (by rw [← w] at h; exact h))
      refine b303_4 (pk_le 3 i (fun z => absurd z (by omega)) (fun _ => k_atOrder ho hi3 (pk_lt i m (fun z => b303_29 ?_) (fun z => ?_) rfl rfl (by omega) (by omega))) rfl rfl (by omega) (by omega))
      · rw [if_neg (by omega)] at ht
        refine pk_le m (tDg o i) (fun z2 => no (by rw [if_pos z2] at ht; exact ht)) (fun z2 => ?_) rfl rfl (by omega) (by omega)
        rw [if_neg (by omega)] at ht
        refine k_holds rfl (by omega) rfl (by omega) (zbo_eq (fun d => yes (by rw [if_neg (by rw [d]; decide)] at ht; exact ht)) (fun d => no (by rw [if_pos d] at ht; exact ht)))
      · rw [if_pos z] at ht
        exact pk_eq (tDg o i) 0 (fun z2 => yes (by rw [if_pos z2] at ht; exact ht)) (fun z2 => no (by rw [if_neg z2] at ht; exact ht)) rfl rfl (by omega) (by omega)
  exact zin0 rfl rfl rfl (b303_0 (key 3 0 0 none (by omega) (by omega) (tIO_all m hm h0 o ho)))
theorem k_teachBy {b o m ng : Nat} (h : wC g c fr nr rl ru nf fo en tx tn kp kc wa ro t I L) (hL : kLay g I) (hin : cIn g c) (hb : b < 2 ^ nf) (hm : m = sBits b) (hm3 : m < 4) (ho : o < 27) (hod : tOrd o m = true) (hng : ng ≤ 50) (hp : ∀ (I' : zI) (L' : zL), kC g (sTg g fr rl ru fo ng (tLs b o m) c) 65 66 67 I' → (∀ o, ¬ wSp o → I' o = I o) → lPk L L' → post none I' L' (zR1 q)) : zC G (n + 7) 301 [.ref 40, .int (nI b), .int (nI o), .int (nI m), .int (nI ng)] I L (zR1 q) post := by
  have hg := hL.1.1
  have hFs := h.2.2.2.2.2.2.1
  have n8 := hFs.1
  have p8 : 2 ^ nf ≤ 2 ^ 8 := Nat.pow_le_pow_right (by decide) n8
  have hX : kXo 72 73 74 75 76 77 65 66 67 := Or.inr (Or.inl ⟨rfl, rfl, rfl, rfl, rfl, rfl, rfl, rfl, rfl⟩)
  have key : ∀ (j i : Nat) (J : zI) (K : zL) (v6 v7 : Option Value), i + j = m → kC g (sTg g fr rl ru fo ng (tLs b o i) c) 65 66 67 J → (∀ o, ¬ wSp o → J o = I o) → lPk L K → zQ G 301 (n + 6) post 14 [some (.ref 40), some (.int (nI b)), some (.int (nI o)), some (.int (nI m)), some (.int (nI ng)), some (.int (nI i)), v6, v7] [] J K (zR1 q) := by
    intro j
    induction j with
    | zero =>
      intro i J K v6 v7 hi kj jo kl
      have ei : i = m := by omega
      subst ei
      exact b301_14 (pk_le i i (fun _ => b301_85 (hp J K kj jo kl)) (fun z => absurd z (by omega)) rfl rfl (by omega) (by omega))
    | succ j ih =>
      intro i J K v6 v7 hi kj jo kl
      have him : i < m := by omega
      have d := tOrd_dg m hm3 o ho hod i him
      obtain ⟨nb1, nb2⟩ := tNb_all nf (by omega) b hb (tDg o i) (by omega)
      have hFb := kFb_f (f := tNb b (tDg o i)) (by omega)
      refine b301_14 (pk_le m i (fun z => absurd z (by omega)) (fun _ => k_atOrder ho (by omega) (k_nthBit rfl (by omega) rfl (by omega) ?_)) rfl rfl (by omega) (by omega))
      rw [nb1]
      have hFJ : kFs nf fo J := kFs_of hFs (by rw [jo 40 (by unfold wSp; omega)]) (fun o z => jo o (by unfold wSp; omega))
      refine w_foeAt hFJ (fun f ef hf => ?_) (fun z => absurd z (xOut_no nb2 (by omega) rfl))
      have ff : f = tNb b (tDg o i) := (nI_inj (by omega) (by omega) ef).symm
      subst ff
      have inner : ∀ (k gi : Nat) (J : zI) (K : zL), gi + k = ng → kC g (sGN g fr rl ru (fo (tNb b (tDg o i))) gi (sTg g fr rl ru fo ng (tLs b o i) c)) 65 66 67 J → (∀ o, ¬ wSp o → J o = I o) → lPk L K → zQ G 301 (n + 6) post 39 [some (.ref 40), some (.int (nI b)), some (.int (nI o)), some (.int (nI m)), some (.int (nI ng)), some (.int (nI i)), some (.ref (131 + 5 * tNb b (tDg o i))), some (.int (nI gi))] [] J K (zR1 q) := by
        intro k
        induction k with
        | zero =>
          intro gi J K hgi kj jo kl
          have eg : gi = ng := by omega
          subst eg
          have qq := ih (i + 1) J K (some (.ref (131 + 5 * tNb b (tDg o i)))) (some (.int (nI gi))) (by omega) (by rw [tLs, sTg_s]; exact kj) jo kl
          rw [← nI_1] at qq
          exact b301_39 (pk_le gi gi (fun _ => b301_79 qq) (fun z => absurd z (by omega)) rfl rfl (by omega) (by omega))
        | succ k ihk =>
          intro gi J K hgi kj jo kl
          have CJ := wC_sq h jo kl
          have hLJ : kLay g J := kLay_of hL (fun o z1 z2 => jo o (by unfold wSp; omega))
          have hFJ := CJ.2.2.2.2.2.2.1
          have h83 := CJ.2.2.2.2.2.2.2.1
          have hinJ := sGN_in (g := g) (fr := fr) (rl := rl) (ru := ru) (F := fo (tNb b (tDg o i))) hg gi _ (sTg_in (g := g) (fr := fr) (rl := rl) (ru := ru) (fo := fo) (n := ng) hg (tLs b o i) c hin)
          refine b301_39 (pk_le ng gi (fun z => absurd z (by omega)) (fun _ => ?_) rfl rfl (by omega) (by omega))
          refine w_ruleNow CJ.2.2.2.2.2.1 (fun rv RO RA RT hv2 hrv => ?_)
          rcases hv2 with rfl | ⟨ro1, rfl⟩ <;> (
            refine k_meetD hX rfl hFb (hFJ.2.2 _ nb2).1 ⟨(hFJ.2.2 _ nb2).2, hLJ, fun k hk => (h83 k hk).1, hrv⟩ ⟨⟨rfl, rfl⟩, Or.inl rfl⟩ CJ.2.2.2.2.1 kj hinJ (fun I2 kc2 _ f2 L2 l2 => And.intro rfl ?_)
            have o2 : ∀ o, ¬ wSp o → I2 o = I o := fun o z => (funext fun k => f2 o k (pMt_no (by unfold wSp at z; omega) (by unfold wSp at z; omega))).trans (jo o z)
            have qq := ihk (gi + 1) I2 L2 (by omega) (by rw [sGN_s]; exact kc2) o2 (lPk_tr kl l2)
            rw [← nI_1] at qq
            exact qq)
      exact inner ng 0 J K (by omega) kj jo kl
  refine zin0 rfl rfl rfl (b301_0 (k_copyFrom (O := 65) (B := 66) (P := 67) (Or.inl ⟨rfl, rfl, rfl, rfl, rfl, rfl⟩) hg h.2.2.1 (fun I2 kc2 f2 => ?_)))
  exact key m 0 I2 L none none (by omega) kc2 (fun o z => ch_row f2 (by unfold wSp at z; omega) (by unfold wSp at z; omega) (by unfold wSp at z; omega)) (lPk_0 L)
end
