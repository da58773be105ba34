-- ===== the class's row: it answers, or throws =====
/-- what a throw stands on -/
def xBs : List Cond := [.castable xNS xNS, .declares (Bundle.initS xRT), .declares (Bundle.initS "java/lang/Exception"), .declares (Bundle.initS Bundle.tN)]
theorem xBs_all : ∀ w ∈ (xAt.filter vx_no).filter (fun w => !goodWord w), w ∈ xBs := by decide +kernel
theorem xAt_in : ((xAt.filter vx_no).filter goodWord).all (fun w => decide (w ∈ tables_1)) = true := by decide +kernel
def lEx (A : Nat → Prop) (U : State) : Prop := (∀ w ∈ xBs, va_Nw w U) ∧ vx_Zq Bundle.tN "UNASSIGNED_STACK" Bundle.steD A U U.heap ∧ vx_Zq Bundle.tN "SUPPRESSED_SENTINEL" Bundle.listD A U U.heap ∧ ∃ sa, vk_R "BoxesWithBeads" 365 "no such number in the row" sa U
theorem lEx_at {A : Nat → Prop} {s U : State} (h : lEx A s) (hk : ∀ a, a < s.heap.size → ¬ A a → U.heap[a]? = s.heap[a]?) (hW : s.WarmedH U.vm) : lEx A U := by
  obtain ⟨h1, h2, h3, sa, h4⟩ := h
  refine ⟨fun w hw => ?_, (h2.kept hk).moved hW.alike, (h3.kept hk).moved hW.alike, sa, vk_R.warm hW h4⟩
  have hz := h1 w hw
  unfold xBs at hw
  rcases List.mem_cons.mp hw with rfl | hw
  · exact va_Nw.warmC hW hz
  rcases List.mem_cons.mp hw with rfl | hw
  · exact va_Nw.warmD hW hz
  rcases List.mem_cons.mp hw with rfl | hw
  · exact va_Nw.warmD hW hz
  rcases List.mem_cons.mp hw with rfl | hw
  · exact va_Nw.warmD hW hz
  cases hw
theorem xBs_tab {w : Cond} (hw : w ∈ xBs) : w.onTables = true := List.all_eq_true.mp (show xBs.all (fun w => w.onTables) = true by decide +kernel) w hw
theorem xBs_in : ∀ w ∈ xBs, w ∈ zTbl := List.forall_mem_cons.mpr ⟨zw_in 7 63 (by decide +kernel), List.forall_mem_cons.mpr ⟨zw_in 7 65 (by decide +kernel), List.forall_mem_cons.mpr ⟨zw_in 7 67 (by decide +kernel), List.forall_mem_cons.mpr ⟨zw_in 7 69 (by decide +kernel), fun _ h => absurd h List.not_mem_nil⟩⟩⟩⟩
theorem lEx_blind {A : Nat → Prop} {U : State} (g : JFrame) (mk : MethodId) (a : Array Value) (h : lEx A U) : lEx A (U.calling g mk a) := by
  obtain ⟨h1, h2, h3, sa, h4⟩ := h
  exact ⟨fun w hw => va_Nw.same (xBs_tab hw) (u := U) (U := U.calling g mk a) rfl (h1 w hw), vx_Zq.moved (u := U) (U := U.calling g mk a) (Vm.Alike.refl U.vm) h2, vx_Zq.moved (u := U) (U := U.calling g mk a) (Vm.Alike.refl U.vm) h3, sa, vk_R.same (u := U) (U := U.calling g mk a) rfl h4⟩
theorem lw_ex {s : State} {bA : Nat} (hb : ∀ w ∈ zTbl, w.before #[Value.ref bA] s = true) (hg : ∀ w ∈ flatC (Jvm.Cond.and given_1 narrow_1), w.before #[Value.ref bA] s = true) : lEx (fun q => s.heap.size ≤ q) s := by
  have hA : ∀ a : Nat, a < s.heap.size → ¬ (fun q => s.heap.size ≤ q) a := fun a h => Nat.not_le.mpr h
  refine ⟨fun w hw => va_Nw.of (xBs_tab hw) (hb w (xBs_in w hw)), vx_Zqof (hb _ (zw_in 7 88 (by decide +kernel))) (hb _ (zw_in 2 18 (by decide +kernel))) (hg _ (by decide +kernel)) hA, vx_Zqof (hb _ (zw_in 7 90 (by decide +kernel))) (hb _ (zw_in 2 18 (by decide +kernel))) (hg _ (by decide +kernel)) hA, ?_⟩
  obtain ⟨a, c, cell, k, h, -⟩ := Cond.exactly_spec (hg (.exactly (.string "BoxesWithBeads" 365) "java/lang/String") (by decide +kernel))
  exact ⟨a, vk_R.of (hb _ (zw_in 7 100 (by decide +kernel))) h⟩
def xRm : Room := { frames := 10, cells := 1, slots := 6, locals := 1000 }
def xBad (x : Int32) (n : Nat) : Prop := x < 0 ∨ nI n ≤ x
/-- the world where it has thrown -/
def xXC (D : va_G) (dty : FieldType → ClassId) (b : Nat) (ts : Nat → Nat) (I : zI) (L : zL) (R : zR) (sz : Nat) (bad : Prop) : String → State → State → Prop := vx_X (fun _ : Unit => bad) (fun E _ t => E = xNS ∧ va_P D zCl (zws dty b ts zNN I L R) t.heap) (zA b zNN sz)
section
variable {p : Program} {l : Launch} {e : Env} {Rm : Room} {s : State} {m : MethodId} {args : Array Value} {below : List Frame} {meth : Method} {c : Code} {D : va_G} {dty : FieldType → ClassId} {b : Nat} {ts : Nat → Nat} {H : Heap} {locs : List Loc} {cells slots : Nat} {Q : State → Prop} {pc : Nat} {ls : Array Slot} {rest : List Value} {I : zI} {L : zL} {R : zR}
theorem xcall {n y cc o index : Nat} {own : String} {bytes : ByteArray} {as : List Value} {post : zPo} (hx : p.tables.exec = Jvm.exec) (hb : c.code = bytes) (hml : c.maxLocals = ls.size) (hown : s.vm.findClass own = some m.cls) (hbase : ∀ w ∈ zBase, w.before args s = true) (hT : zTa D dty b ts false zNN s) (hM : zC (l, D, dty, b, ts, false) n y (.ref o :: as) I L R post)
    (hP : va_P D zCl (zws dty b ts zNN I L R) H) (hS : va_S (zA b zNN s.heap.size) s.heap H locs)
    (hzk : zk o = .inr cc) (hin : zin o zNN = true) (hcls : zcn cc = (zna y).cls) (hxe : Nat.beq (zxe y) 0 = false) (hst : zsta y = false) (hnar : as.length = znar y) (hlk : Cond.methodLink own index (zna y) ∈ zBase) (hroom : (zrm n zNN zNN).frames + 1 ≤ Rm.frames ∧ 8 + (zml y + 11) + (zrm n zNN zNN).locals ≤ Rm.locals)
    (hrest : (rest.map fun v => v.category).sum ≤ 8) (hdg : decode bytes pc = .ok (.invokevirtual index, 3)) (hcl : cells ≤ Rm.cells) (hsl : slots ≤ Rm.slots)
    (kk : ∀ (q : Option Value) (I' : zI) (L' : zL) (R' : zR) (H1 : Heap) (locs1 : List Loc), post q I' L' R' → va_P D zCl (zws dty b ts zNN I' L' R') H1 → va_S (zA b zNN s.heap.size) s.heap H1 locs1 → W p l e Rm s m args below meth c H1 locs1 cells slots Q (F0 m (pc + 3) ls ((q.map (zrn b ts)).toList ++ rest))) :
    W p l e Rm s m args below meth c H locs cells slots Q (F0 m pc ls ((as.map (zrn b ts)).reverse ++ .ref (zad b ts o) :: rest)) := by
  obtain ⟨g1, g2, hya, g4, hM⟩ := hM
  have hcc := zk_cls o cc (zin_lt hin) hzk
  have hg := zws_get (dty := dty) (b := b) (ts := ts) (I := I) (L := L) (R := R) hin
  rw [zen_obj hzk] at hg
  have hrecv := va_recv hT.1 hP (zCl_get hcc) hg
  refine zcallL (N2 := zNN) (va_runV (C := zcn cc) (b := zad b ts o) (As := as.map (zrn b ts)) (rest := rest) ⟨hx, hb, hml, hown, hbase⟩ (hM H.size) ⟨callB_of (znar y) hbase (law_good hya) rfl rfl rfl (hbase _ (zyf hya).2.1) (hbase _ hlk) ⟨(zyf2 hya).1.1, (zyf2 hya).1.2, (zyf2 hya).2⟩ hroom, hbase _ ((zyf hya).2.2.2.1 hst), by rw [hcls]; exact hbase _ ((zyf hya).2.2.2.2.1 hxe)⟩ ⟨zblind zPre_blind, hrecv, fun U hU hW => ⟨rfl, ⟨by rw [hU], by rw [hU]; exact hP, zTa_call hT hS (fun z => (by cases z)) (fun _ => rfl) hU hW⟩⟩⟩ rfl (by simp [hnar]) rfl rfl (lv_room hrest) hdg ⟨by rw [Nat.sub_self, Nat.add_zero]; exact hcl, by rw [Nat.sub_self, Nat.add_zero]; exact hsl⟩) hS (fun q hq => zA_call (fl := false) (fun z => (by cases z)) (fun _ => rfl) hS.1 (Nat.le_refl _) hq) fun q I' L' R' H1 locs1 hp hP1 hk1 hS1 => ?_
  refine W.cs (cells' := cells) (slots' := slots) (by rw [Nat.sub_self, Nat.add_zero]) (by rw [Nat.sub_self, Nat.add_zero]) ?_
  exact kk q I' L' R' H1 locs1 hp hP1 hS1
theorem zA_le2 {N0 sz q : Nat} (h : b + N0 ≤ sz) (hq : zA b N0 sz q) : b ≤ q := zA_le h hq
theorem c_xrow (hl : l.stackTraces = false) {ro : List Int64} {x : Int32} {q0 : zq} {sz : Nat} (hro : kRow ro I L) :
    vx_Met l (zna 293) (zWs 293) xRm (va_Pc [.ref (zad b ts 40), .int x] (fun U => zPre D dty b ts false sz zNN I L (zR1 q0) U ∧ lEx (fun a => b ≤ a) U)) (va_Ql (fun (r : Int64) (_ : Unit) => ∃ i, x = nI i ∧ ro[i]? = some r) (fun _ t => va_P D zCl (zws dty b ts zNN I L (zR1 q0)) t.heap) (zA b zNN sz)) (xXC D dty b ts I L (zR1 q0) sz (xBad x ro.length)) 1 6 (zA b zNN sz) := by
  have hlen : ro.length ≤ 32 := hro.2.1
  refine vx_ofW (cc := zby 293) (maxL := 2) (ret := some .long) (by decide +kernel) rfl ?_
  intro p e s m args below meth c s₁ B hml htab hP
  obtain ⟨rfl, ⟨hsz, hP, hT⟩, hE⟩ := hP
  subst hsz
  have hts := atoms_spec (ws := zWs 293) B.pre
  have hbase : ∀ w ∈ zBase, w.before #[Value.ref (zad b ts 40), .int x] s = true := fun w hw => hts w (List.mem_cons_of_mem _ hw)
  have hown : s.vm.findClass "BoxesWithBeads" = some m.cls := findClass_of_methodNamed B.named
  have hx := B.exec
  have hb : c.code = zby 293 := B.bytes
  have hS : va_S (zA b zNN s.heap.size) s.heap s.heap [] := va_S.rf
  have hAb : ∀ q, zA b zNN s.heap.size q → b ≤ q := fun q hq => zA_le2 hT.2.2.2 hq
  have hlv := lv_entry ([.ref (zad b ts 40), .int x]) (n := 2) (Nat.le_of_ble_eq_true rfl)
  rw [lg_entry_eq]
  generalize (lg_sl ([.ref (zad b ts 40), .int x]) ++ List.replicate (2 - (lg_sl ([.ref (zad b ts 40), .int x])).length) Slot.unset).toArray = ls at hlv ⊢
  have hlv : lv_has ls 2 [(0, .ref (zad b ts 40)), (1, .int x)] := hlv
  have hmls : c.maxLocals = ls.size := hml.trans hlv.1.symm
  obtain ⟨e1, e2, e3, sa, e4⟩ := hE
  have e1s : ∀ w ∈ xBs, w.before #[Value.ref (zad b ts 40), .int x] s = true := fun w hw => va_Nw.use (xBs_tab hw) (e1 w hw)
  have thr : ∀ (H : Heap) (locs : List Loc), va_P D zCl (zws dty b ts zNN I L (zR1 q0)) H → va_S (zA b zNN s.heap.size) s.heap H locs → xBad x ro.length → W p l e xRm s m #[.ref (zad b ts 40), .int x] below meth c H locs 0 0 (vx_MQ below (va_Ql (fun (r : Int64) (_ : Unit) => ∃ i, x = nI i ∧ ro[i]? = some r) (fun _ t => va_P D zCl (zws dty b ts zNN I L (zR1 q0)) t.heap) (zA b zNN s.heap.size)) (xXC D dty b ts I L (zR1 q0) s.heap.size (xBad x ro.length)) #[.ref (zad b ts 40), .int x] s 1 6 (zA b zNN s.heap.size)) (F0 m 15 ls []) := by
    intro H locs hP hS hbad
    refine x_throw (text := "no such number in the row") (is := 365) (sa := sa) (A := zA b zNN s.heap.size) hx hb hl hown (hbase _ (zhas_mem (d := 1853) (by decide +kernel))) (hbase _ (zhas_mem (d := 533) (by decide +kernel))) e4 ?_ (by decide +kernel) (e2.narrow hAb) (e3.narrow hAb) hS hmls.symm (by decide +kernel) (by decide +kernel) (by decide +kernel) (by decide +kernel) (by decide +kernel) (fun x hx => (htab x hx).elim) (by decide) (by decide) (by decide) (by decide) B.notSynchronized ?_ hS.2.2 (Nat.le_refl _) (Nat.le_refl _)
    · refine vx_hat (B := xBs) (fun w hw => hbase w ?_) xBs_all e1s
      have hg := (List.mem_filter.mp hw).2
      exact List.mem_filter.mpr ⟨List.mem_append_right _ (List.mem_append_right _ (of_decide_eq_true (List.all_eq_true.mp xAt_in w hw))), hg⟩
    · intro t ht hz hk
      exact ⟨(), hbad, ⟨rfl, hP.kept fun k x hx => hk x.1 (hP k x hx).lt⟩, ⟨Nat.le_trans hS.1 hz, fun q h1 h2 => (hk q (Nat.lt_of_lt_of_le h1 hS.1)).trans (hS.2.1 q h1 h2)⟩⟩
  refine lv_iload_n (k := 1) hx hb (by decide +kernel) rfl (lv_at hlv 1 rfl) ?_
  refine lv_if_lt (tgt := 15) (off := 14) hx hb (by decide +kernel) (by decide) (fun z => thr _ _ hP hS (Or.inl z)) (fun z => ?_)
  refine lv_iload_n (k := 1) hx hb (by decide +kernel) rfl (lv_at hlv 1 rfl) ?_
  refine lv_aload_n (k := 0) hx hb (by decide +kernel) rfl (lv_at hlv 0 rfl) ?_
  have get : ∀ {H : Heap} {locs : List Loc} {pc : Nat} {rest : List Value} {Q : State → Prop}, va_P D zCl (zws dty b ts zNN I L (zR1 q0)) H → decode (zby 293) pc = .ok (.getfield 105, 3) → W p l e xRm s m #[.ref (zad b ts 40), .int x] below meth c H locs 0 0 Q (F0 m (pc + 3) ls (.ref (zad b ts 96) :: rest)) → W p l e xRm s m #[.ref (zad b ts 40), .int x] below meth c H locs 0 0 Q (F0 m pc ls (.ref (zad b ts 40) :: rest)) := by
    intro H locs pc rest Q hP hdg fin
    have hg := zws_get (dty := dty) (b := b) (ts := ts) (I := I) (L := L) (R := zR1 q0) (o := 40) (N := zNN) (by decide +kernel)
    rw [zen_obj (show zk 40 = .inr 12 from rfl)] at hg
    have hcc : 12 < zncl := by decide +kernel
    obtain ⟨c1, c2, c3, c4, c5⟩ := zcf_ok hcc
    exact va_get (D := D) (ci := 12) (C := zcn 12) (T := zcT 12) (N := zcf 12) hx hb hbase c3 hown hT.1 hP (zpos 40) hg (zCl_get hcc) 19 (by decide +kernel) (hbase _ (zhas_mem (d := 958) (by decide +kernel))) (fun _ h => h) (by rw [zfs_get (by decide +kernel)]; rfl) hdg fin
  refine get hP (by decide +kernel) ?_
  refine xcall (n := 1) (y := 204) (o := 96) (as := []) (rest := [.int x]) hx hb hmls hown hbase hT (k_held (n := 0) (q := q0) (post := fun r I' L' R' => r = some (.int (nI ro.length)) ∧ I' = I ∧ L' = L ∧ R' = zR1 q0) hro ⟨rfl, rfl, rfl, rfl⟩) hP hS (cc := 7) rfl rfl (by decide +kernel) rfl rfl rfl (index := 258) (List.mem_filter.mpr ⟨zw_in 5 197 (by decide +kernel), by decide +kernel⟩) (by decide +kernel) (by show 1 ≤ 8; decide) (by decide +kernel) (Nat.zero_le _) (Nat.zero_le _) ?_
  rintro r I1 L1 R1 H1 locs1 ⟨rfl, rfl, rfl, rfl⟩ hP1 hS1
  show W p l e xRm s m #[.ref (zad b ts 40), .int x] below meth c H1 locs1 0 0 _ (F0 m 12 ls [.int (nI ro.length), .int x])
  refine lv_icmp_lt (tgt := 26) (off := 14) hx hb (by decide +kernel) (by decide) (fun z2 => ?_) (fun z2 => thr _ _ hP1 hS1 (Or.inr (Int32.not_lt.mp z2)))
  rcases pk_ix x (n := ro.length) (by omega) with c1 | c1 | ⟨i, hi, rfl⟩
  · exact absurd c1 z
  · exact absurd z2 (Int32.not_lt.mpr c1)
  refine lv_aload_n (k := 0) hx hb (by decide +kernel) rfl (lv_at hlv 0 rfl) ?_
  refine get hP1 (by decide +kernel) ?_
  refine lv_iload_n (k := 1) hx hb (by decide +kernel) rfl (lv_at hlv 1 rfl) ?_
  have hv : ro[i]? = some ro[i] := List.getElem?_eq_getElem hi
  refine xcall (n := 1) (y := 205) (o := 96) (as := [.int (nI i)]) (rest := []) hx hb hmls hown hbase hT (k_at (n := 0) (q := q0) (post := fun r I' L' R' => r = some (.long ro[i]) ∧ I' = I1 ∧ L' = L1 ∧ R' = zR1 q0) hro hv ⟨rfl, rfl, rfl, rfl⟩) hP1 hS1 (cc := 7) rfl rfl (by decide +kernel) rfl rfl rfl (index := 370) (List.mem_filter.mpr ⟨zw_in 7 127 (by decide +kernel), by decide +kernel⟩) (by decide +kernel) (Nat.zero_le _) (by decide +kernel) (Nat.zero_le _) (Nat.zero_le _) ?_
  rintro r I2 L2 R2 H2 locs2 ⟨rfl, rfl, rfl, rfl⟩ hP2 hS2
  refine W.widen (k := 1) (n := 6) (Nat.zero_le _) (Nat.zero_le _) (vx_ret ?_)
  exact W.lret hx hb B.returns (fun t ht hW => ⟨⟨ro[i], (), rfl, ⟨i, rfl, hv⟩, (by show va_P D zCl _ t.heap; rw [ht]; exact hP2)⟩, hS2.F ht⟩) hS2.2.2 (by decide +kernel) B.notSynchronized
end
