-- ===== the law from its entry =====
section
variable {p : Program} {l : Launch} {e : Env} {s : State} {m : MethodId} {below : List Frame} {meth : Method} {c : Code} {bA Ls : Nat} {xs : Nat → Int32} {D : va_G} {dty : FieldType → ClassId} {ts : Nat → Nat} {H : Heap} {locs : List Loc} {Q : State → Prop} {pc : Nat} {ls : Array Slot} {rest : List Value} {I : zI} {L : zL} {R : zR}
/-- 'new' in the law: the next object of the plan -/
theorem law_new {N a index : Nat} (C0 : lw_At p s m meth c bA Ls xs) (hT : zTa D dty s.heap.size ts true 0 s) (hN : N < zNN) (hsz : H.size = s.heap.size + N) (hP : va_P D zCl (zws dty s.heap.size ts N I L R) H) (hS : va_S (lA s) s.heap H locs) (hac : a < zncl) (hzw : zk (zid N) = .inr a) (hlk : Cond.classLink R_law index (zcn a) ∈ zBase) (hdg : decode code pc = .ok (.new index, 3)) (hcl : N + 1 ≤ room_1.cells) (hsl : zsl (N + 1) ≤ room_1.slots)
    (kk : ∀ H1 : Heap, va_P D zCl (zws dty s.heap.size ts (N + 1) (zrow I (zid N) fun _ => 0) (zrow L (zid N) fun _ => 0) (zrow R (zid N) fun _ => none)) H1 → va_S (lA s) s.heap H1 locs → H1.size = s.heap.size + (N + 1) → W p l e room_1 s m #[.ref bA] below meth c H1 locs (N + 1) (zsl (N + 1)) Q (F0 m (pc + 3) ls (.ref (s.heap.size + N) :: rest))) : W p l e room_1 s m #[.ref bA] below meth c H locs N (zsl N) Q (F0 m pc ls rest) := by
  obtain ⟨hx, hb, hr, hml, hown, hts, hX, hbl, hlocks, hgv⟩ := id C0
  have hbase := law_base C0
  obtain ⟨c1, c2, c3, c4, c5⟩ := zcf_ok hac
  have hzs : zsz (zid N) = zcf a := by unfold zsz; rw [hzw]
  have hs1 : zsl (N + 1) = zsl N + zsz (zid N) := rfl
  have hKn := hT.1.1 a _ (zCl_get hac)
  refine W.newcK hx hb hown (hbase _ hlk) (hbase _ c1) (hbase _ c2) rfl hdg hcl (by omega) hKn.2.1 hsz fun H1 kC hkC e1 z1 o1 => ?_
  refine W.cs (cells' := N + 1) (slots' := zsl (N + 1)) rfl (by omega) ?_
  have hk : ∀ (k : Nat) (x : Nat × va_E), (zws dty s.heap.size ts N I L R)[k]? = some x → H1[x.1]? = H[x.1]? := fun k x hx => o1 x.1 (by rw [← hsz]; exact (hP k x hx).lt)
  refine kk H1 (zws_push hN hP hk rfl (by
    show va_at D zCl (s.heap.size + N, zen dty s.heap.size ts (zrow I (zid N) fun _ => 0) (zrow L (zid N) fun _ => 0) (zrow R (zid N) fun _ => none) (zid N)) H1
    rw [zen_obj hzw]
    exact ⟨_, zCl_get hac, (u_born (zcy a) hbase c3 hKn hkC e1 c4).to fun j hj => zborn hac hj⟩)) ⟨by rw [z1, ← hsz]; exact Nat.le_succ_of_le hS.1, fun x h1 h2 => (o1 x (by rw [← hsz]; exact Nat.lt_of_lt_of_le h1 hS.1)).trans (hS.2.1 x h1 h2), hS.2.2⟩ (by rw [z1, Nat.add_assoc])
/-- a constructor's call in the law -/
theorem law_init {N E n y o index : Nat} {post : zPo} (C0 : lw_At p s m meth c bA Ls xs) (hT : zTa D dty s.heap.size ts true 0 s) (hsz : H.size = s.heap.size + N) (hM : zCon (l, D, dty, s.heap.size, ts, true) n y N E [.ref o] I L R post) (hP : va_P D zCl (zws dty s.heap.size ts N I L R) H) (hS : va_S (lA s) s.heap H locs) (hret : zrt y = none) (hst : zsta y = false) (hnm : (zna y).name = "<init>") (hnar : znar y = 0) (hlk : Cond.methodLink R_law index (zna y) ∈ zBase) (hn : n ≤ 1000) (hrest : (rest.map fun v => v.category).sum ≤ 8) (hls : ls.size = 8) (hdg : decode code pc = .ok (.invokespecial index, 3)) (hE : E ≤ room_1.cells) (hEs : zsl E ≤ room_1.slots)
    (kk : ∀ (q : Option Value) (I' : zI) (L' : zL) (R' : zR) (H1 : Heap) (locs1 : List Loc), post q I' L' R' → va_P D zCl (zws dty s.heap.size ts E I' L' R') H1 → va_S (lA s) s.heap H1 locs1 → W p l e room_1 s m #[.ref bA] below meth c H1 locs1 E (zsl E) Q (F0 m (pc + 3) ls ((q.map (zrn s.heap.size ts)).toList ++ rest))) : W p l e room_1 s m #[.ref bA] below meth c H locs N (zsl N) Q (F0 m pc ls (.ref (zad s.heap.size ts o) :: rest)) := by
  obtain ⟨hx, hb, hr, hml, hown, hts, hX, hbl, hlocks, hgv⟩ := id C0
  have hbase := law_base C0
  obtain ⟨g1, g2, hya, g4, hM⟩ := hM
  have h64 := (zyf hya).2.2.2.2.2.1
  have hzm := zsl_mono g1
  have hg : GoodIn zBase (Cond.code (zna y) (zby y) (zml y) none :: zBase) := by
    have q := law_good hya
    unfold zWs at q
    rw [hret] at q
    exact q
  refine zcallL (N2 := E) (va_runI (b := zad s.heap.size ts o) (As := []) (rest := rest) ⟨hx, hb, hml, hown, hbase⟩ (hM H.size) ⟨callB_of 0 hbase (show GoodIn zBase (zWs y) by unfold zWs; rw [hret]; exact hg) (show zWs y = Cond.code (zna y) (zby y) (zml y) none :: zBase by unfold zWs; rw [hret]) rfl rfl (hbase _ (zyf hya).2.1) (hbase _ hlk) ⟨(zyf2 hya).1.1, (zyf2 hya).1.2, by rw [(zyf2 hya).2, hnar]⟩ ⟨by show n + 1 ≤ 2048; omega, by show 8 + (zml y + 11) + 64 * n ≤ 84000; omega⟩, hnm, hbase _ ((zyf hya).2.2.2.1 hst)⟩ ⟨zblind zPre_blind, fun U hU hW => ⟨rfl, ⟨by rw [hU], by rw [hU]; exact hP, zTa_call hT hS (fun _ => hsz) (fun z => (by cases z)) hU hW⟩⟩⟩ rfl rfl hls rfl (lv_room hrest) hdg ⟨by show N + (E - N) ≤ _; omega, by show zsl N + (zsl E - zsl N) ≤ _; omega⟩) hS (fun q hq => ?_) fun q I' L' R' H1 locs1 hp hP1 hk1 hS1 => ?_
  · rcases hq with ⟨a1, a2⟩ | a1
    · exact lA_of a1
    · exact lA_of (by omega)
  · refine W.cs (cells' := E) (slots' := zsl E) (by omega) (by omega) ?_
    exact kk q I' L' R' H1 locs1 hp hP1 hS1
end
set_option maxHeartbeats 4000000 in
/-- THE LAW, from its entry -/
theorem whole_start {p : Program} {e : Env} {s : State} {m : MethodId} {below : List Frame} {meth : Method} {c : Code} (l : Launch) (hflags : l.flags = flags0) {b L : Nat} {xs : Nat → Int32} (hL : L ≤ 2560) (C0 : lw_At p s m meth c b L xs) : W p l e room_1 s m #[Value.ref b] below meth c s.heap [] 0 0 (lw_Z below #[Value.ref b] s) (entryFrame m ([Value.ref b] : List Value).toArray 8) := by
  obtain ⟨hx, hb, hr, hml, hown, hts, hX, hbl, hlocks, hgv⟩ := id C0
  have hlf : l.stackTraces = false := by
    unfold Launch.stackTraces
    rw [hflags]
    decide +kernel
  obtain ⟨D, dty, ts, hT⟩ := lw_zTa hts hgv
  have hE := lw_ex (lw_zTbl hts) (flat_of_before _ hgv)
  have hbase := law_base C0
  have hS : va_S (lA s) s.heap s.heap [] := va_S.rf
  have hP : va_P D zCl (zws dty s.heap.size ts 0 (uI []) z0 (uR [])) s.heap := fun k q h => by simp [zws] at h
  have hl := lv_entry ([.ref b]) (n := 8) (Nat.le_of_ble_eq_true rfl)
  rw [lg_entry_eq]
  generalize (lg_sl ([.ref b]) ++ List.replicate (8 - (lg_sl ([.ref b])).length) Slot.unset).toArray = ls at hl ⊢
  have hl : lv_has ls 8 [(0, .ref b)] := hl
  have hsl := l_slots
  have hzz : ∀ N, N ≤ zNN → zsl N ≤ room_1.slots := fun N h => by
    have := zsl_mono h
    show zsl N ≤ 7293034
    omega
  refine law_new (N := 0) (a := 12) (index := 8) C0 hT (by decide +kernel) rfl hP hS (by decide +kernel) rfl (List.mem_filter.mpr ⟨zw_in 2 22 (by decide +kernel), by decide +kernel⟩) (by decide +kernel) (by decide) (hzz 1 (by decide)) fun H1 hP1 hS1 z1 => ?_
  rw [uI_new (l := []) rfl, z0_new, uR_new (l := []) rfl] at hP1
  refine lv_dup hx hb (by decide +kernel) rfl ?_
  show W p l e room_1 s m #[Value.ref b] below meth c H1 [] 1 (zsl 1) (lw_Z below #[Value.ref b] s) (F0 m 4 ls [.ref (zad s.heap.size ts 40), .ref (zad s.heap.size ts 40)])
  refine law_init (N := 1) (E := 131) (n := 4) (y := 255) (o := 40) (index := 15) (post := fun r I' L' R' => r = none ∧ I' = uI lIni ∧ L' = z0 ∧ R' = uR lRef) C0 hT z1 (c_init255 (n := 0) rfl ⟨rfl, rfl, rfl, rfl⟩) hP1 hS1 rfl rfl (by decide +kernel) rfl (List.mem_filter.mpr ⟨zw_in 2 24 (by decide +kernel), by decide +kernel⟩) (by decide) (by show 1 ≤ 8; decide) hl.1 (by decide +kernel) (by decide) (hzz 131 (by decide)) ?_
  rintro q I2 L2 R2 H2 locs2 ⟨rfl, rfl, rfl, rfl⟩ hP2 hS2
  refine lv_astore_n (k := 1) (lv' := [(1, .ref (zad s.heap.size ts 40)), (0, .ref b)]) hx hb (by decide +kernel) rfl hl (by decide) rfl (fun ls hl => ?_)
  refine law_size (N := 131) hP2 hS2 fun hsz2 => ?_
  refine law_new (N := 131) (a := 0) (index := 16) C0 hT (by decide +kernel) hsz2 hP2 hS2 (by decide +kernel) rfl (List.mem_filter.mpr ⟨zw_in 7 132 (by decide +kernel), by decide +kernel⟩) (by decide +kernel) (by decide) (hzz 132 (by decide)) fun H3 hP3 hS3 z3 => ?_
  rw [uI_new (l := lIni) (by decide +kernel), z0_new, uR_new (l := lRef) (by decide +kernel)] at hP3
  refine lv_dup hx hb (by decide +kernel) rfl ?_
  show W p l e room_1 s m #[Value.ref b] below meth c H3 locs2 132 (zsl 132) (lw_Z below #[Value.ref b] s) (F0 m 12 ls [.ref (zad s.heap.size ts 0), .ref (zad s.heap.size ts 0)])
  refine law_init (N := 132) (E := zNN) (n := 29) (y := 0) (o := 0) (index := 18) (post := fun r I' L' R' => r = none ∧ L' = sInL z0 ∧ R' = zR1 (none, none, none) ∧ mG sg0 I' ∧ mPos sg0 I' ∧ mC (cClr sc0) I' ∧ (∀ i, i < 3 → I' 29 i = 0) ∧ zFr tB (sIni (uI lIni)) I') C0 hT z3 (c_init0 (n := 0) (q := (none, none, none)) rfl lIni_0 (fun _ => rfl) lRef_0 (fun o k ho => lRef_eq ho) fun I' h1 h2 h3 h4 h5 => ⟨rfl, rfl, rfl, h1, h2, h3, h4, h5⟩) hP3 hS3 rfl rfl (by decide +kernel) rfl (List.mem_filter.mpr ⟨zw_in 7 134 (by decide +kernel), by decide +kernel⟩) (by decide) (by show 1 ≤ 8; decide) hl.1 (by decide +kernel) (by decide) (hzz zNN (Nat.le_refl _)) ?_
  rintro q I4 L4 R4 H4 locs4 ⟨rfl, rfl, rfl, y1, y2, y3, y4, y5⟩ hP4 hS4
  refine lv_astore_n (k := 2) (lv' := [(2, .ref (zad s.heap.size ts 0)), (1, .ref (zad s.heap.size ts 40)), (0, .ref b)]) hx hb (by decide +kernel) rfl hl (by decide) rfl (fun ls hl => ?_)
  refine law_size (N := zNN) hP4 hS4 fun hsz4 => ?_
  refine lv_iconst (v := 1) hx hb (n := 1) (by decide +kernel) rfl ?_
  have hcl5 : zNN + 1 ≤ room_1.cells := Nat.le_of_ble_eq_true (by decide +kernel)
  have hsl5 : zsl zNN + 1 ≤ room_1.slots := Nat.le_trans (Nat.add_le_add_left (show 1 ≤ 4000 by decide) _) hsl
  refine va_newaK (atype := .long) (N := 1) hx hb (hbase _ (zPrim .long rfl)) rfl (show decode code 17 = .ok (.newarray .long, 2) by decide +kernel) rfl (by decide) (by decide) (Nat.le_of_ble_eq_true rfl) hcl5 hsl5 hsz4 fun H5 cA e5 z5 o5 hAr hNm => ?_
  have hcA : cA = dty .long := Option.some.inj (hNm.symm.trans (hT.1.2 1 _ rfl).2)
  have hO5 : va_P D zCl (lOut dty s.heap.size 0) H5 := by
    intro k q hq
    have hk0 : k < 1 := (List.getElem?_eq_some_iff.mp hq).1
    rw [show k = 0 by omega] at hq
    cases hq
    rw [hcA] at e5
    exact e5
  have hP5 : va_P D zCl (zws dty s.heap.size ts zNN I4 (sInL z0) (zR1 (none, none, none))) H5 := hP4.kept fun k x hx => o5 x.1 (by rw [← hsz4]; exact (hP4 k x hx).lt)
  have hS5 : va_S (lA s) s.heap H5 locs4 := ⟨by rw [z5, ← hsz4]; exact Nat.le_succ_of_le hS4.1, fun x h1 h2 => (o5 x (by rw [← hsz4]; exact Nat.lt_of_lt_of_le h1 hS4.1)).trans (hS4.2.1 x h1 h2), hS4.2.2⟩
  refine W.cs (cells' := 172 + 0) (slots' := zsl zNN + 1 + 6 * 0) (show 171 + 1 = 172 + 0 from rfl) (by omega) ?_
  show W p l e room_1 s m #[Value.ref b] below meth c H5 locs4 (172 + 0) (zsl zNN + 1 + 6 * 0) (lw_Z below #[Value.ref b] s) (F0 m 19 ls [.ref (s.heap.size + 171)])
  refine lv_astore_n (k := 3) (lv' := [(3, .ref (s.heap.size + 171)), (2, .ref (zad s.heap.size ts 0)), (1, .ref (zad s.heap.size ts 40)), (0, .ref b)]) hx hb (by decide +kernel) rfl hl (by decide) rfl (fun ls hl => ?_)
  refine lv_iconst (v := 0) hx hb (n := 0) (by decide +kernel) rfl ?_
  refine lv_istore (lv' := [(4, .int 0), (3, .ref (s.heap.size + 171)), (2, .ref (zad s.heap.size ts 0)), (1, .ref (zad s.heap.size ts 40)), (0, .ref b)]) hx hb (by decide +kernel) hl (by decide) rfl (fun ls hl => ?_)
  exact law_loop hL C0 hT hE hlf (L + 1) 0 0 0 I4 (sInL z0) (none, none, none) 0 H5 locs4 ls rfl (Nat.zero_le L) (by omega) (Nat.le_refl _) ⟨_, _, _, _, _, _, _, _, _, _, _, _, _, _, _, wB0 y1 y2 y3 y4 y5⟩ hP5 hO5 hS5 (lv_sub hl [4, 3, 2, 1, 0] rfl)
