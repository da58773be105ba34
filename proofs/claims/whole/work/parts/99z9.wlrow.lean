-- ===== the law's own method row: it calls the class's, and catches =====
def yLrow : MethodName := ⟨"BoxesWithBeadsLaw", "row", "(LBoxesWithBeads;I[J)I"⟩
def hLrow : List (Nat × Nat × Nat × Nat) := [(0, 8, 11, 13)]
def wsLrow : List Cond := .codeWith yLrow method_3_code 4 (some .int) hLrow :: zBase
def lRm : Room := { frames := 20, cells := 1, slots := 6, locals := 2000 }
def lPc (D : va_G) (dty : FieldType → ClassId) (b : Nat) (ts : Nat → Nat) (sz : Nat) (I : zI) (L : zL) (R : zR) (v : Int64) (U : State) : Prop := (U.heap.size = sz ∧ b + 171 < sz) ∧ va_P D zCl (zws dty b ts zNN I L R) U.heap ∧ va_P D zCl (lOut dty b v) U.heap ∧ zTa D dty b ts false zNN U ∧ lEx (fun a => b ≤ a) U
def lPo (x : Int32) (ro : List Int64) (v : Int64) (r : Int32) (w : Int64) : Prop := (r = 0 ∧ ∃ i, x = nI i ∧ ro[i]? = some w) ∨ (r = 1 ∧ xBad x ro.length)
def lXC : String → State → State → Prop := vx_X (fun _ : Unit => False) (fun _ _ _ => True) (fun _ => False)
section
variable {l : Launch} {D : va_G} {dty : FieldType → ClassId} {b : Nat} {ts : Nat → Nat} {I : zI} {L : zL}
theorem lw_codeW : Cond.codeWith yLrow method_3_code 4 (some .int) hLrow ∈ zBase := List.mem_filter.mpr ⟨zw_in 7 55 (by decide +kernel), by decide +kernel⟩
theorem c_lrow (hl : l.stackTraces = false) {ro : List Int64} {x : Int32} {q0 : zq} {v : Int64} {sz : Nat} (hro : kRow ro I L) :
    vx_Met l yLrow wsLrow lRm (va_Pc [.ref (zad b ts 40), .int x, .ref (b + 171)] (lPc D dty b ts sz I L (zR1 q0) v)) (va_Qi (fun (r : Int32) (w : Int64) => lPo x ro v r w) (fun w t => va_P D zCl (zws dty b ts zNN I L (zR1 q0)) t.heap ∧ va_P D zCl (lOut dty b w) t.heap) (fun a => b ≤ a)) lXC 1 6 (fun a => b ≤ a) := by
  refine vx_ofWH (cc := method_3_code) (maxL := 4) (ret := some .int) (hh := hLrow) (by decide +kernel) rfl ?_
  intro p e s m args below meth c s₁ B hml hPc
  obtain ⟨rfl, ⟨rfl, hbs⟩, hP, hO, hT, hE⟩ := hPc
  have hts := atoms_spec (ws := wsLrow) B.pre
  have hbase : ∀ w ∈ zBase, w.before #[Value.ref (zad b ts 40), .int x, .ref (b + 171)] s = true := fun w hw => hts w (List.mem_cons_of_mem _ hw)
  have htab : c.exceptionTable.toList = tableOf hLrow := vx_table (x := yLrow) B (hbase _ lw_codeW)
  have hown : s.vm.findClass R_law = some m.cls := findClass_of_methodNamed B.named
  have hx := B.exec
  have hb : c.code = method_3_code := B.bytes
  have hS : va_S (fun a => b ≤ a) s.heap s.heap [] := va_S.rf
  have hAb : ∀ {q n : Nat}, s.heap.size ≤ n → zA b zNN n q → b ≤ q := by
    intro q n hn hq
    rcases hq with ⟨a1, a2⟩ | a1
    · exact a1
    · omega
  have hlv := lv_entry ([.ref (zad b ts 40), .int x, .ref (b + 171)]) (n := 4) (Nat.le_of_ble_eq_true rfl)
  rw [lg_entry_eq]
  generalize (lg_sl ([.ref (zad b ts 40), .int x, .ref (b + 171)]) ++ List.replicate (4 - (lg_sl ([.ref (zad b ts 40), .int x, .ref (b + 171)])).length) Slot.unset).toArray = ls at hlv ⊢
  have hlv : lv_has ls 4 [(0, .ref (zad b ts 40)), (1, .int x), (2, .ref (b + 171))] := hlv
  refine lv_aload_n (k := 2) hx hb (by decide +kernel) rfl (lv_at hlv 2 rfl) ?_
  refine lv_iconst (v := 0) hx hb (n := 0) (by decide +kernel) rfl ?_
  refine lv_aload_n (k := 0) hx hb (by decide +kernel) rfl (lv_at hlv 0 rfl) ?_
  refine lv_iload_n (k := 1) hx hb (by decide +kernel) rfl (lv_at hlv 1 rfl) ?_
  have hya : 293 < znm := by decide +kernel
  have hg := zws_get (dty := dty) (b := b) (ts := ts) (I := I) (L := L) (R := zR1 q0) (o := 40) (N := zNN) (by decide +kernel)
  rw [zen_obj (show zk 40 = .inr 12 from rfl)] at hg
  have hcc : 12 < zncl := by decide +kernel
  have hrecv := va_recv hT.1 hP (zCl_get hcc) hg
  have hout : ∀ {H1 : Heap}, (∀ q : Nat, q < s.heap.size → ¬ zA b zNN s.heap.size q → H1[q]? = s.heap[q]?) → va_P D zCl (lOut dty b v) H1 := by
    intro H1 hk
    refine hO.kept fun k q hq => ?_
    have hk0 : k < 1 := (List.getElem?_eq_some_iff.mp hq).1
    rw [show k = 0 by omega] at hq
    cases hq
    refine hk _ hbs fun z => ?_
    rcases z with ⟨a1, a2⟩ | a1
    · exact absurd (show b + 171 < b + 171 from a2) (Nat.lt_irrefl _)
    · exact absurd (Nat.lt_of_lt_of_le hbs a1) (Nat.lt_irrefl _)
  refine vx_calll (rest := [.int 0, .ref (b + 171)]) (vx_runV (C := zcn 12) (b := zad b ts 40) (As := [.int x]) (rest := [.int 0, .ref (b + 171)]) (own := R_law) (index := 7) (n := 1) ⟨hx, hb, hml, hown, hbase⟩ (c_xrow hl (x := x) (q0 := q0) (sz := s.heap.size) (dty := dty) (D := D) (b := b) (ts := ts) hro) ⟨callB_of 1 hbase (law_good hya) rfl rfl rfl (hbase _ (zyf hya).2.1) (hbase _ (List.mem_filter.mpr ⟨zw_in 7 57 (by decide +kernel), by decide +kernel⟩)) ⟨(zyf2 hya).1.1, (zyf2 hya).1.2, (zyf2 hya).2⟩ ⟨by decide, by decide +kernel⟩, hbase _ ((zyf hya).2.2.2.1 rfl), hbase _ ((zyf hya).2.2.2.2.1 rfl)⟩ ⟨zblind (fun a U g mk q => ⟨zPre_blind a U g mk q.1, lEx_blind g mk a q.2⟩), hrecv, fun U hU hW => ⟨rfl, ⟨by rw [hU], by rw [hU]; exact hP, zTa_call hT va_S.rf (fun z => (by cases z)) (fun _ => rfl) hU hW⟩, lEx_at hE (fun a _ _ => by rw [hU]) hW⟩⟩ rfl rfl hlv.1 rfl (lv_room (by show 2 ≤ 8; decide)) (show decode method_3_code 4 = .ok (.invokevirtual 7, 3) by decide +kernel) ⟨by decide, by decide⟩) hS (fun q _ hq => hAb (Nat.le_refl _) hq) (fun q hq => hAb (Nat.le_refl _) hq) (fun q _ hq => hAb (Nat.le_refl _) hq) (fun E ce q9 u t H1 locs1 ht hvm hbad hB hz hk hS1 hce hcv hcl => ?_) (fun r u t H1 locs1 ht hvm hr hB hz hk hS1 => ?_)
  · obtain ⟨rfl, hP1⟩ := hB
    rw [ht] at hP1
    refine vx_catch (own := R_law) (name := xNS) (E := xNS) hown [] ⟨0, 8, 11, 13⟩ [] htab (fun z hz => (by cases hz)) (by decide) (by decide) (hbase _ (List.mem_filter.mpr ⟨zw_in 7 56 (by decide +kernel), by decide +kernel⟩)) (va_Nw.use rfl (hE.1 _ List.mem_cons_self)) hce hcv hcl ?_
    refine lv_astore_n (k := 3) (lv' := [(3, .ref q9), (0, .ref (zad b ts 40)), (1, .int x), (2, .ref (b + 171))]) hx hb (by decide +kernel) rfl hlv (by decide) rfl (fun ls hlv => ?_)
    refine lv_iconst (v := 1) hx hb (n := 1) (by decide +kernel) rfl ?_
    refine vx_ret ?_
    exact W.iret hx hb B.returns (fun t ht hW => ⟨⟨1, v, rfl, Or.inr ⟨rfl, hbad⟩, by rw [ht]; exact hP1, by rw [ht]; exact hout hk⟩, hS1.F ht⟩) hS1.2.2 (by decide +kernel) B.notSynchronized
  · rw [ht] at hB
    have hO1 := hout hk
    refine W.last hx hb (hO1 0 _ rfl) ((hT.1.2 1 _ rfl).1 1 (fun j => .long v)) (fun q => by cases q) (by show ¬ ((0 : Int32) < 0 ∨ (arrV _ _ _).slots.size ≤ _); rw [arrV_size]; show ¬ ((0 : Int32) < 0 ∨ 1 ≤ (0 : Int32).toNatClampNeg); decide) rfl rfl (show decode method_3_code 7 = .ok (.lastore, 1) by decide +kernel) fun H2 e2 z2 oq => ?_
    have hS2 := hS1.put (k := (0 : Int32).toNatClampNeg) z2 oq (show b ≤ b + 171 by omega)
    have hP2 : va_P D zCl (zws dty b ts zNN I L (zR1 q0)) H2 := by
      refine hB.kept fun k q hq => ?_
      have hk0 : k < zNN := by
        have := (List.getElem?_eq_some_iff.mp hq).1
        unfold zws at this
        simpa using this
      unfold zws at hq
      rw [List.getElem?_map, List.getElem?_range hk0] at hq
      cases hq
      have hk0 : k < 171 := hk0
      exact oq _ (show b + k ≠ b + 171 by omega)
    have hO2 : va_P D zCl (lOut dty b r) H2 := by
      intro k q hq
      have hk0 : k < 1 := (List.getElem?_eq_some_iff.mp hq).1
      rw [show k = 0 by omega] at hq
      cases hq
      refine e2.trans ?_
      rfl
    show W p l e lRm s m _ below meth c H2 _ _ _ _ (F0 m 8 ls [])
    refine lv_goto (tgt := 14) (off := 6) hx hb (by decide +kernel) (by decide) ?_
    refine lv_iconst (v := 0) hx hb (n := 0) (by decide +kernel) rfl ?_
    refine vx_ret ?_
    exact W.iret hx hb B.returns (fun t ht hW => ⟨⟨0, r, rfl, Or.inl ⟨rfl, hr⟩, by rw [ht]; exact hP2, by rw [ht]; exact hO2⟩, hS2.F ht⟩) hS2.2.2 (by decide +kernel) B.notSynchronized
end
