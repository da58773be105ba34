-- ===== the law's row; its loop =====
theorem l_cmp (x : Int64) : lg_cmp x x = 0 := by unfold lg_cmp; simp
theorem l_and63 (x : Int32) : ∃ j, j < 64 ∧ x &&& 63 = nI j := by
  refine ⟨x.toBitVec.toNat % 64, Nat.mod_lt _ (by decide), ?_⟩
  apply Int32.toBitVec_inj.mp
  apply BitVec.eq_of_toNat_eq
  have h1 : (x &&& 63).toBitVec.toNat = x.toBitVec.toNat &&& 63 := by
    rw [Int32.toBitVec_and, BitVec.toNat_and]
    rfl
  have h2 : (nI (x.toBitVec.toNat % 64)).toBitVec.toNat = x.toBitVec.toNat % 64 := by
    show (Int32.ofNat (x.toBitVec.toNat % 64)).toBitVec.toNat = _
    rw [Int32.toBitVec_ofNat', BitVec.toNat_ofNat]
    exact Nat.mod_eq_of_lt (by have := Nat.mod_lt x.toBitVec.toNat (show 0 < 64 by decide); omega)
  rw [h1, h2]
  exact Nat.and_two_pow_sub_one_eq_mod _ 6
abbrev lLv (s : State) (ts : Nat → Nat) (bA i : Nat) : List (Nat × Value) := [(0, .ref bA), (1, .ref (zad s.heap.size ts 40)), (2, .ref (zad s.heap.size ts 0)), (3, .ref (s.heap.size + 171)), (4, .int (nI i))]
section
variable {p : Program} {l : Launch} {e : Env} {s : State} {m : MethodId} {below : List Frame} {meth : Method} {cd : Code} {bA Ls : Nat} {xs : Nat → Int32} {D : va_G} {dty : FieldType → ClassId} {ts : Nat → Nat} {H : Heap} {locs : List Loc} {cells slots : Nat} {Q : State → Prop} {ls : Array Slot} {I : zI} {L : zL} {q0 : zq} {v : Int64} {g : zg} {c : sC} {fr : Nat → Nat} {nr : Nat} {rl : zrl} {ru : Option Nat} {nf : Nat} {fo : Nat → zfo} {en : Nat → Int32} {tx : Nat → Nat} {tn : Nat} {kp : Nat → Bool} {kc : Nat → sC} {wa : List zwt} {ro : List Int64} {t i : Nat}
abbrev lRow : zq → zI → zL → List Int64 → Int32 → zPo := fun q0 I L ro x r I' L' R' => (L' = L ∧ R' = zR1 q0) ∧ ((∃ i w, x = nI i ∧ ro[i]? = some w ∧ r = some (.long w) ∧ I' = zup I 0 34 0) ∨ (xOut x ro.length ∧ r = some (.long 0) ∧ I' = zup I 0 34 1))
theorem wB_34 {w : Int32} (h : wB g c fr nr rl ru nf fo en tx tn kp kc wa ro t I L) : wB g c fr nr rl ru nf fo en tx tn kp kc wa ro t (zup I 0 34 w) L := ⟨wM_34 h.1, wC_hi h.2 (fun o ho => zup_ne (show o ≠ 0 by omega)) rfl⟩
theorem law_row (C0 : lw_At p s m meth cd bA Ls xs) (hT : zTa D dty s.heap.size ts true 0 s) (hE : lEx (fun q => s.heap.size ≤ q) s) (hlf : l.stackTraces = false) (h : wB g c fr nr rl ru nf fo en tx tn kp kc wa ro t I L) (hP : va_P D zCl (zws dty s.heap.size ts zNN I L (zR1 q0)) H) (hO : va_P D zCl (lOut dty s.heap.size v) H) (hS : va_S (lA s) s.heap H locs) (hl : lv_has ls 8 (lLv s ts bA i)) (hi : i + 5 ≤ Ls) (hL : Ls ≤ 2560) (hcl : cells + 1 ≤ room_1.cells) (hsl : slots + 6 ≤ room_1.slots)
    (go : ∀ (I' : zI) (L' : zL) (q' : zq) (v' : Int64) (H' : Heap) (locs' : List Loc) (ls' : Array Slot), wE t I' L' → va_P D zCl (zws dty s.heap.size ts zNN I' L' (zR1 q')) H' → va_P D zCl (lOut dty s.heap.size v') H' → va_S (lA s) s.heap H' locs' → lv_has ls' 8 (lLv s ts bA i) → W p l e room_1 s m #[.ref bA] below meth cd H' locs' (cells + 1) (slots + 6) Q (F0 m 1332 ls' [])) : W p l e room_1 s m #[.ref bA] below meth cd H locs cells slots Q (F0 m 1277 ls []) := by
  obtain ⟨hx, hb, hr, hml, hown, hts, hX, hbl, hlocks, hgv⟩ := id C0
  have hbase := law_base C0
  obtain ⟨c1, c2, c3, c4, c5, c6, c7, c8, c9, c10, hro, c12⟩ := id h.2
  obtain ⟨m1, m2, m3, m4, m5, m6, m7, m8, m9, ⟨hmr, hmr2⟩, m11⟩ := id h.1
  have hz : s.heap.size + 171 < H.size := (hO 0 _ rfl).lt
  refine lv_aload_n (k := 1) hx hb (by decide +kernel) rfl (lv_at hl 1 rfl) ?_
  refine law_args C0 hS (lv_at hl 0 rfl) (lv_at hl 4 rfl) hi hL 1 1 1278 _ (by decide +kernel) (by decide) ?_
  refine lv_aload_n (k := 3) hx hb (by decide +kernel) rfl (lv_at hl 3 rfl) ?_
  refine vx_calli (rest := []) (vx_runSX (hh := hLrow) (As := [.ref (zad s.heap.size ts 40), .int (xs (i + 1)), .ref (s.heap.size + 171)]) (rest := []) (own := R_law) (index := 174) (n := 3) ⟨hx, hb, hml, hown, hbase⟩ (c_lrow (D := D) (dty := dty) (b := s.heap.size) (ts := ts) hlf (x := xs (i + 1)) (q0 := q0) (v := v) (sz := H.size) hro) (vx_cwSW 3 hbase ?_ rfl rfl rfl ⟨by decide +kernel, by decide +kernel, by decide +kernel⟩ ⟨by decide +kernel, by decide +kernel⟩) ⟨zblind (fun a U g mk q => ?_), fun U hU hW => ⟨rfl, ?_⟩⟩ rfl rfl hl.1 rfl (lv_room (Nat.zero_le _)) (show decode code 1285 = .ok (.invokestatic 174, 3) by decide +kernel) ⟨hcl, hsl⟩) hS (fun q _ hq => lA_of hq) (fun q hq => lA_of hq) (fun q _ hq => hq.elim) (fun E ce q9 u t H1 locs1 ht hvm hbad => hbad.elim) (fun r w t9 H1 locs1 ht hvm hr hB hz hk hS1 => ?_)
  · intro w hw
    have hm : w ∈ zBase := by
      unfold va_wsS at hw
      rcases List.mem_append.mp hw with h | h
      · rcases List.mem_cons.mp h with rfl | h
        · exact List.mem_filter.mpr ⟨zw_in 7 53 (by decide +kernel), by decide +kernel⟩
        rcases List.mem_cons.mp h with rfl | h
        · exact List.mem_filter.mpr ⟨zw_in 7 54 (by decide +kernel), by decide +kernel⟩
        rcases List.mem_cons.mp h with rfl | h
        · exact List.mem_filter.mpr ⟨zw_in 2 0 (by decide +kernel), by decide +kernel⟩
        cases h
      · rcases List.mem_cons.mp h with rfl | h
        · exact lw_codeW
        · exact h
    exact ⟨hm, zbase_good hm⟩
  · obtain ⟨q1, q2, q3, q4, q5⟩ := q
    have q6 := zPre_blind (sz := H.size) (I := I) (L := L) (R := zR1 q0) a U g mk ⟨q1.1, q2, q4⟩
    exact ⟨q1, q2, q3, q6.2.2, lEx_blind g mk a q5⟩
  · exact ⟨⟨by rw [hU], hz⟩, by rw [hU]; exact hP, by rw [hU]; exact hO, law_zTa hT hS (by omega) hU hW, lEx_at hE (fun a h1 h2 => by rw [hU]; exact hS.2.1 a h1 (fun z => h2 (lA_ge z))) hW⟩
  · obtain ⟨hP1, hO1⟩ := hB
    rw [ht] at hP1 hO1
    refine lv_istore (lv' := (5, .int r) :: lLv s ts bA i) hx hb (by decide +kernel) hl (by decide) rfl (fun ls hl => ?_)
    refine lv_aload_n (k := 2) hx hb (by decide +kernel) rfl (lv_at hl 3 rfl) ?_
    refine law_args C0 hS1 (lv_at hl 1 rfl) (lv_at hl 5 rfl) hi hL 1 1 1291 _ (by decide +kernel) (by decide) ?_
    refine law_call (n := 2) (y := 124) (o := 0) (as := [.int (xs (i + 1))]) (rest := []) (post := lRow q0 I L ro (xs (i + 1))) C0 hT (c_row (n := 0) hmr hmr2 (fun i w e1 e2 => ⟨⟨rfl, rfl⟩, Or.inl ⟨i, w, e1, e2, rfl, rfl⟩⟩) (fun e1 => ⟨⟨rfl, rfl⟩, Or.inr ⟨e1, rfl, rfl⟩⟩)) hP1 hO1 hS1 (cc := 0) (index := 179) rfl rfl (by decide +kernel) rfl rfl rfl (List.mem_filter.mpr ⟨zw_in 10 137 (by decide +kernel), by decide +kernel⟩) (by decide) (Nat.zero_le _) hl.1 (by decide +kernel) hcl hsl (fun q I2 L2 R2 H2 locs2 hp hP2 hO2 hS2 => ?_)
    obtain ⟨⟨rfl, rfl⟩, hp⟩ := hp
    have fin : ∀ (th : Int32) (vv : Int64), q = some (.long vv) → I2 = zup I 0 34 th → th = r → (r = 0 → w = vv) → (r ≠ 0 → r = 1) → W p l e room_1 s m #[.ref bA] below meth cd H2 locs2 (cells + 1) (slots + 6) Q (F0 m 1300 ls ((q.map (zrn s.heap.size ts)).toList ++ [])) := by
      intro th vv eq eI eth e0 e1
      subst eq
      subst eI
      subst eth
      show W p l e room_1 s m #[.ref bA] below meth cd H2 locs2 (cells + 1) (slots + 6) Q (F0 m 1300 ls [.long vv])
      refine lv_lstore (lv' := (6, .long vv) :: (5, .int th) :: lLv s ts bA i) hx hb (by decide +kernel) hl (by decide) rfl (fun ls hl => ?_)
      refine lv_aload_n (k := 2) hx hb (by decide +kernel) rfl (lv_at hl 4 rfl) ?_
      refine law_call (n := 1) (y := 1) (o := 0) (as := []) (rest := []) (post := fun r' I' L' R' => r' = some (.int (zup I 0 34 th 0 34)) ∧ I' = zup I 0 34 th ∧ L' = L2 ∧ R' = zR1 q0) C0 hT (c_thrown (n := 0) ⟨rfl, rfl, rfl, rfl⟩) hP2 hO2 hS2 (cc := 0) (index := 180) rfl rfl (by decide +kernel) rfl rfl rfl (List.mem_filter.mpr ⟨zw_in 8 183 (by decide +kernel), by decide +kernel⟩) (by decide) (Nat.zero_le _) hl.1 (by decide +kernel) hcl hsl (fun q I3 L3 R3 H3 locs3 hp hP3 hO3 hS3 => ?_)
      obtain ⟨rfl, rfl, rfl, rfl⟩ := hp
      rw [zup_self]
      show W p l e room_1 s m #[.ref bA] below meth cd H3 locs3 (cells + 1) (slots + 6) Q (F0 m 1306 ls [.int th])
      refine lv_iload hx hb (by decide +kernel) (lv_at hl 1 rfl) ?_
      refine lv_icmp_eq (tgt := 1313) (off := 5) hx hb (by decide +kernel) (by decide) (fun _ => ?_) (fun z => absurd rfl z)
      have done : W p l e room_1 s m #[.ref bA] below meth cd H3 locs3 (cells + 1) (slots + 6) Q (F0 m 1329 ls []) := by
        refine lv_goto (tgt := 1332) (off := 3) hx hb (by decide +kernel) (by decide) ?_
        exact go _ _ q0 w H3 locs3 ls ⟨g, c, fr, nr, rl, ru, nf, fo, en, tx, tn, kp, kc, wa, ro, t, by omega, wB_34 h⟩ hP3 hO3 hS3 (lv_sub hl [2, 3, 4, 5, 6] rfl)
      refine lv_iload hx hb (by decide +kernel) (lv_at hl 1 rfl) ?_
      refine lv_if_ne (tgt := 1329) (off := 14) hx hb (by decide +kernel) (by decide) (fun _ => done) (fun z => ?_)
      have z0 : th = 0 := z
      have ew := e0 z0
      subst ew
      refine lv_aload_n (k := 3) hx hb (by decide +kernel) rfl (lv_at hl 5 rfl) ?_
      refine lv_iconst (v := 0) hx hb (n := 0) (by decide +kernel) rfl ?_
      refine va_lald hx hb hT.1 hO3 0 1 rfl rfl (by show ¬ _; decide) (by decide +kernel) ?_
      refine lv_lload hx hb (by decide +kernel) (lv_at hl 0 rfl) ?_
      refine W.lcmp hx hb (by decide +kernel) ?_
      rw [l_cmp]
      exact lv_if_eq (tgt := 1329) (off := 5) hx hb (by decide +kernel) (by decide) (fun _ => done) (fun z => absurd rfl z)
    have hlen : ro.length ≤ 32 := hro.2.1
    rcases hr with ⟨rfl, j, ej, ew⟩ | ⟨rfl, hbad⟩
    · have hj : j < ro.length := (List.getElem?_eq_some_iff.mp ew).1
      rcases hp with ⟨j2, w2, ej2, ew2, eq, eI⟩ | ⟨hout, -, -⟩
      · have hj2 : j2 < ro.length := (List.getElem?_eq_some_iff.mp ew2).1
        have e := congrArg Int32.toNatClampNeg (ej.symm.trans ej2)
        rw [nI_clamp (by omega), nI_clamp (by omega)] at e
        subst e
        exact fin 0 w2 eq eI rfl (fun _ => Option.some.inj (ew.symm.trans ew2)) (fun z => absurd rfl z)
      · rw [ej] at hout
        rcases hout with z | z
        · exact absurd z (nI_pos (by omega))
        · exact absurd (nI_lt hj (by omega)) (Int32.not_lt.mpr z)
    · rcases hp with ⟨j2, w2, ej2, ew2, -, -⟩ | ⟨hout, eq, eI⟩
      · have hj2 : j2 < ro.length := (List.getElem?_eq_some_iff.mp ew2).1
        rw [ej2] at hbad
        rcases hbad with z | z
        · exact absurd z (nI_pos (by omega))
        · exact absurd (nI_lt hj2 (by omega)) (Int32.not_lt.mpr z)
      · exact fin 1 0 eq eI rfl (fun z => absurd z (by decide)) (fun _ => rfl)
end
