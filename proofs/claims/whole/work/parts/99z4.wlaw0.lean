-- ===== the law's start: what stands beside the heap =====
theorem zw_in {w : Cond} (k i : Nat) (h : zN (zTk k) i = some w) : w ∈ zTbl := zTk_sub k w (zN_mem _ _ _ h)
section
variable {s : State} {bA : Nat}
theorem lw_zTbl (hts : ∀ w ∈ lw_tbl, w.before #[Value.ref bA] s = true) : ∀ w ∈ zTbl, w.before #[Value.ref bA] s = true := by
  have ht : ∀ w ∈ tables_1, w.before #[Value.ref bA] s = true := fun w h => hts w (List.mem_append_right _ h)
  have key : ∀ q : MethodName × Nat, lw_okq q → (Cond.selects "BoxesWithBeads$Ways" q.1 q.1).before #[Value.ref bA] s = true := fun q hq => zselp (n := q.2) (n2 := 23) hq.1 (ht _ lw_p38.2.1) (ht _ hq.2.1) (ht _ hq.2.2.1) (ht _ hq.2.2.2)
  intro w hw
  rcases List.mem_append.mp hw with h | h
  · rcases List.mem_cons.mp h with rfl | h
    · exact key _ lw_p26
    rcases List.mem_cons.mp h with rfl | h
    · exact key _ lw_p27
    rcases List.mem_cons.mp h with rfl | h
    · exact key _ lw_p28
    rcases List.mem_cons.mp h with rfl | h
    · exact key _ lw_p29
    cases h
  · exact hts w h
def lTys : List FieldType := [.int, .long, .byte, .boolean, .char, .object "BoxesWithBeads$Chest", .object "BoxesWithBeads$Foe", .object "BoxesWithBeads$Rule"]
theorem lTys_eq (dty : FieldType → ClassId) : zTys dty = lTys.map (fun ty => (dty ty, ty)) := rfl
theorem lw_prim (hb : ∀ w ∈ zTbl, w.before #[Value.ref bA] s = true) {ty : FieldType} (h : zisPr ty = true) : ∃ cA : ClassId, ArrOfT s cA ty ∧ s.vm.findClass ("[" ++ ty.toString) = some cA := by
  obtain ⟨c, k, comp, h1, h2, h3⟩ := Cond.arrayClass_spec (hb _ (List.mem_filter.mp (zPrim ty h)).1)
  exact ⟨c, fun n z => ⟨fun k h => (by cases h), k, h2, comp, h3⟩, h1⟩
theorem lw_obj (hb : ∀ w ∈ zTbl, w.before #[Value.ref bA] s = true) {C : String} (h : Cond.arrayOver (.object C) ∈ zTbl) : ∃ cA : ClassId, ArrOfT s cA (.object C) ∧ va_RA s cA (.object C) := by
  obtain ⟨comp, c, k, h1, h2, h3, h4, h5⟩ := Cond.arrayOver_spec (hb _ h)
  exact ⟨c, fun n z => ⟨fun k h => (by cases h), k, h3, comp, h4⟩, k, comp, h3, h4, h1, h5⟩
theorem zao_Chest : Cond.arrayOver (.object "BoxesWithBeads$Chest") ∈ zTbl := zw_in 2 202 (by decide +kernel)
theorem zao_Foe : Cond.arrayOver (.object "BoxesWithBeads$Foe") ∈ zTbl := zw_in 2 206 (by decide +kernel)
theorem zao_Rule : Cond.arrayOver (.object "BoxesWithBeads$Rule") ∈ zTbl := zw_in 2 204 (by decide +kernel)
theorem lw_dty (hb : ∀ w ∈ zTbl, w.before #[Value.ref bA] s = true) : ∃ dty : FieldType → ClassId, ∀ ty ∈ lTys, ArrOfT s (dty ty) ty ∧ va_RA s (dty ty) ty := by
  have h : ∀ ty : FieldType, ∃ cA : ClassId, ty ∈ lTys → ArrOfT s cA ty ∧ va_RA s cA ty := by
    intro ty
    by_cases hm : ty ∈ lTys
    · have hm' := hm
      unfold lTys at hm'
      rcases List.mem_cons.mp hm' with rfl | hm'
      · obtain ⟨c, h1, h2⟩ := lw_prim hb (ty := .int) rfl
        exact ⟨c, fun _ => ⟨h1, h2⟩⟩
      rcases List.mem_cons.mp hm' with rfl | hm'
      · obtain ⟨c, h1, h2⟩ := lw_prim hb (ty := .long) rfl
        exact ⟨c, fun _ => ⟨h1, h2⟩⟩
      rcases List.mem_cons.mp hm' with rfl | hm'
      · obtain ⟨c, h1, h2⟩ := lw_prim hb (ty := .byte) rfl
        exact ⟨c, fun _ => ⟨h1, h2⟩⟩
      rcases List.mem_cons.mp hm' with rfl | hm'
      · obtain ⟨c, h1, h2⟩ := lw_prim hb (ty := .boolean) rfl
        exact ⟨c, fun _ => ⟨h1, h2⟩⟩
      rcases List.mem_cons.mp hm' with rfl | hm'
      · obtain ⟨c, h1, h2⟩ := lw_prim hb (ty := .char) rfl
        exact ⟨c, fun _ => ⟨h1, h2⟩⟩
      rcases List.mem_cons.mp hm' with rfl | hm'
      · obtain ⟨c, h1, h2⟩ := lw_obj hb zao_Chest
        exact ⟨c, fun _ => ⟨h1, h2⟩⟩
      rcases List.mem_cons.mp hm' with rfl | hm'
      · obtain ⟨c, h1, h2⟩ := lw_obj hb zao_Foe
        exact ⟨c, fun _ => ⟨h1, h2⟩⟩
      rcases List.mem_cons.mp hm' with rfl | hm'
      · obtain ⟨c, h1, h2⟩ := lw_obj hb zao_Rule
        exact ⟨c, fun _ => ⟨h1, h2⟩⟩
      cases hm'
    · exact ⟨0, fun h => absurd h hm⟩
  obtain ⟨f, hf⟩ := Classical.axiomOfChoice h
  exact ⟨f, hf⟩
theorem lw_cls (hb : ∀ w ∈ zTbl, w.before #[Value.ref bA] s = true) : ∃ D : va_G, ∀ (k : Nat) (q : vw_C), zCl[k]? = some q → u_Kn s q.1 q.2.1 q.2.2 (D.1 k) (D.2 k) := by
  have hbase : ∀ w ∈ zBase, w.before #[Value.ref bA] s = true := fun w h => hb w (List.mem_filter.mp h).1
  have h : ∀ k : Nat, ∃ x : ClassId × (Nat → Nat), ∀ q : vw_C, zCl[k]? = some q → u_Kn s q.1 q.2.1 q.2.2 x.1 x.2 := by
    intro k
    by_cases hk : k < zncl
    · obtain ⟨c1, c2, c3, c4, c5⟩ := zcf_ok hk
      obtain ⟨cC, iS, hKn⟩ := u_known hbase c3 (hbase _ c1)
      exact ⟨(cC, iS), fun q hq => by cases (zCl_get hk).symm.trans hq; exact hKn⟩
    · refine ⟨(0, fun _ => 0), fun q hq => ?_⟩
      rw [zCl_eq, List.getElem?_eq_none (by simp; omega)] at hq
      cases hq
  obtain ⟨f, hf⟩ := Classical.axiomOfChoice h
  exact ⟨(fun k => (f k).1, fun k => (f k).2), hf⟩
theorem zNest_in : ∀ w ∈ zNest, w ∈ zTbl := by
  unfold zNest
  refine List.forall_mem_cons.mpr ⟨zw_in 2 32 (by decide +kernel), List.forall_mem_cons.mpr ⟨zw_in 2 49 (by decide +kernel), List.forall_mem_cons.mpr ⟨zw_in 2 83 (by decide +kernel), List.forall_mem_cons.mpr ⟨zw_in 2 88 (by decide +kernel), List.forall_mem_cons.mpr ⟨zw_in 2 176 (by decide +kernel), List.forall_mem_cons.mpr ⟨zw_in 3 113 (by decide +kernel), List.forall_mem_cons.mpr ⟨zw_in 3 125 (by decide +kernel), List.forall_mem_cons.mpr ⟨zw_in 3 141 (by decide +kernel), List.forall_mem_cons.mpr ⟨zw_in 4 119 (by decide +kernel), List.forall_mem_cons.mpr ⟨zw_in 4 169 (by decide +kernel), List.forall_mem_cons.mpr ⟨zw_in 4 202 (by decide +kernel), List.forall_mem_cons.mpr ⟨zw_in 4 231 (by decide +kernel), List.forall_mem_cons.mpr ⟨zw_in 5 10 (by decide +kernel), List.forall_mem_cons.mpr ⟨zw_in 5 16 (by decide +kernel), List.forall_mem_cons.mpr ⟨zw_in 5 104 (by decide +kernel), List.forall_mem_cons.mpr ⟨zw_in 5 114 (by decide +kernel), List.forall_mem_cons.mpr ⟨zw_in 5 163 (by decide +kernel), List.forall_mem_cons.mpr ⟨zw_in 5 230 (by decide +kernel), List.forall_mem_cons.mpr ⟨zw_in 6 21 (by decide +kernel), List.forall_mem_cons.mpr ⟨zw_in 6 93 (by decide +kernel), fun _ h => absurd h List.not_mem_nil⟩⟩⟩⟩⟩⟩⟩⟩⟩⟩⟩⟩⟩⟩⟩⟩⟩⟩⟩⟩
theorem lw_nest (hb : ∀ w ∈ zTbl, w.before #[Value.ref bA] s = true) : ∀ w ∈ zNest, va_Nw w s := by
  intro w hw
  have hf : zisN w = true := List.all_eq_true.mp (show zNest.all zisN = true by rfl) w hw
  have h := hb w (zNest_in w hw)
  cases w <;> first | (cases hf; done) | exact va_Nw.of rfl h
theorem lw_st0 (hb : ∀ w ∈ zTbl, w.before #[Value.ref bA] s = true) (hg : ∀ w ∈ flatC (Jvm.Cond.and given_1 narrow_1), w.before #[Value.ref bA] s = true) : ∃ t : Nat, va_Z "BoxesWithBeads" "POWERS" "[I" (.ref t) (fun q => s.heap.size ≤ q) s s.heap ∧ va_T .int t 10 (fun j => .int (zstv 0 j)) (fun q => s.heap.size ≤ q) s s.heap := by
  have hA : ∀ a : Nat, a < s.heap.size → ¬ (fun q => s.heap.size ≤ q) a := fun a h => Nat.not_le.mpr h
  have hel : ∀ j : Nat, j < 10 → (Term.elem (.static "BoxesWithBeads" "POWERS" "[I") (.int (Int32.ofNat j))).eval #[Value.ref bA] s none [] s = some (.int (zstv 0 j)) := by
    intro j hj
    match j, hj with
    | 0, _ => exact va_eqt (hg (Cond.eq (.elem (.static "BoxesWithBeads" "POWERS" "[I") (.int 0)) (.int 1)) (by decide +kernel))
    | 1, _ => exact va_eqt (hg (Cond.eq (.elem (.static "BoxesWithBeads" "POWERS" "[I") (.int 1)) (.int 3)) (by decide +kernel))
    | 2, _ => exact va_eqt (hg (Cond.eq (.elem (.static "BoxesWithBeads" "POWERS" "[I") (.int 2)) (.int 9)) (by decide +kernel))
    | 3, _ => exact va_eqt (hg (Cond.eq (.elem (.static "BoxesWithBeads" "POWERS" "[I") (.int 3)) (.int 27)) (by decide +kernel))
    | 4, _ => exact va_eqt (hg (Cond.eq (.elem (.static "BoxesWithBeads" "POWERS" "[I") (.int 4)) (.int 81)) (by decide +kernel))
    | 5, _ => exact va_eqt (hg (Cond.eq (.elem (.static "BoxesWithBeads" "POWERS" "[I") (.int 5)) (.int 243)) (by decide +kernel))
    | 6, _ => exact va_eqt (hg (Cond.eq (.elem (.static "BoxesWithBeads" "POWERS" "[I") (.int 6)) (.int 729)) (by decide +kernel))
    | 7, _ => exact va_eqt (hg (Cond.eq (.elem (.static "BoxesWithBeads" "POWERS" "[I") (.int 7)) (.int 2187)) (by decide +kernel))
    | 8, _ => exact va_eqt (hg (Cond.eq (.elem (.static "BoxesWithBeads" "POWERS" "[I") (.int 8)) (.int 6561)) (by decide +kernel))
    | 9, _ => exact va_eqt (hg (Cond.eq (.elem (.static "BoxesWithBeads" "POWERS" "[I") (.int 9)) (.int 19683)) (by decide +kernel))
    | j + 10, h => exact absurd h (by omega)
  obtain ⟨t, h1, h2⟩ := va_Tof (tm := (.static "BoxesWithBeads" "POWERS" "[I")) (ty := .int) (N := 10) (f := fun j => .int (zstv 0 j)) (A := fun q => s.heap.size ≤ q) (by decide) (hg (Cond.arrayOf (.static "BoxesWithBeads" "POWERS" "[I") .int) (by decide +kernel)) (va_eqt (hg (Cond.eq (.length (.static "BoxesWithBeads" "POWERS" "[I")) (.int 10)) (by decide +kernel))) hel hA
  exact ⟨t, va_Zof (hb _ (zw_in 4 170 (by decide +kernel))) (hb _ (zw_in 2 1 (by decide +kernel))) h1 hA, h2⟩
theorem lw_st1 (hb : ∀ w ∈ zTbl, w.before #[Value.ref bA] s = true) (hg : ∀ w ∈ flatC (Jvm.Cond.and given_1 narrow_1), w.before #[Value.ref bA] s = true) : ∃ t : Nat, va_Z "BoxesWithBeads" "INVERSE" "[I" (.ref t) (fun q => s.heap.size ≤ q) s s.heap ∧ va_T .int t 8 (fun j => .int (zstv 1 j)) (fun q => s.heap.size ≤ q) s s.heap := by
  have hA : ∀ a : Nat, a < s.heap.size → ¬ (fun q => s.heap.size ≤ q) a := fun a h => Nat.not_le.mpr h
  have hel : ∀ j : Nat, j < 8 → (Term.elem (.static "BoxesWithBeads" "INVERSE" "[I") (.int (Int32.ofNat j))).eval #[Value.ref bA] s none [] s = some (.int (zstv 1 j)) := by
    intro j hj
    match j, hj with
    | 0, _ => exact va_eqt (hg (Cond.eq (.elem (.static "BoxesWithBeads" "INVERSE" "[I") (.int 0)) (.int 0)) (by decide +kernel))
    | 1, _ => exact va_eqt (hg (Cond.eq (.elem (.static "BoxesWithBeads" "INVERSE" "[I") (.int 1)) (.int 1)) (by decide +kernel))
    | 2, _ => exact va_eqt (hg (Cond.eq (.elem (.static "BoxesWithBeads" "INVERSE" "[I") (.int 2)) (.int 2)) (by decide +kernel))
    | 3, _ => exact va_eqt (hg (Cond.eq (.elem (.static "BoxesWithBeads" "INVERSE" "[I") (.int 3)) (.int 3)) (by decide +kernel))
    | 4, _ => exact va_eqt (hg (Cond.eq (.elem (.static "BoxesWithBeads" "INVERSE" "[I") (.int 4)) (.int 4)) (by decide +kernel))
    | 5, _ => exact va_eqt (hg (Cond.eq (.elem (.static "BoxesWithBeads" "INVERSE" "[I") (.int 5)) (.int 6)) (by decide +kernel))
    | 6, _ => exact va_eqt (hg (Cond.eq (.elem (.static "BoxesWithBeads" "INVERSE" "[I") (.int 6)) (.int 5)) (by decide +kernel))
    | 7, _ => exact va_eqt (hg (Cond.eq (.elem (.static "BoxesWithBeads" "INVERSE" "[I") (.int 7)) (.int 7)) (by decide +kernel))
    | j + 8, h => exact absurd h (by omega)
  obtain ⟨t, h1, h2⟩ := va_Tof (tm := (.static "BoxesWithBeads" "INVERSE" "[I")) (ty := .int) (N := 8) (f := fun j => .int (zstv 1 j)) (A := fun q => s.heap.size ≤ q) (by decide) (hg (Cond.arrayOf (.static "BoxesWithBeads" "INVERSE" "[I") .int) (by decide +kernel)) (va_eqt (hg (Cond.eq (.length (.static "BoxesWithBeads" "INVERSE" "[I")) (.int 8)) (by decide +kernel))) hel hA
  exact ⟨t, va_Zof (hb _ (zw_in 5 11 (by decide +kernel))) (hb _ (zw_in 2 1 (by decide +kernel))) h1 hA, h2⟩
theorem lw_st2 (hb : ∀ w ∈ zTbl, w.before #[Value.ref bA] s = true) (hg : ∀ w ∈ flatC (Jvm.Cond.and given_1 narrow_1), w.before #[Value.ref bA] s = true) : ∃ t : Nat, va_Z "BoxesWithBeadsModel" "POWERS" "[I" (.ref t) (fun q => s.heap.size ≤ q) s s.heap ∧ va_T .int t 10 (fun j => .int (zstv 2 j)) (fun q => s.heap.size ≤ q) s s.heap := by
  have hA : ∀ a : Nat, a < s.heap.size → ¬ (fun q => s.heap.size ≤ q) a := fun a h => Nat.not_le.mpr h
  have hel : ∀ j : Nat, j < 10 → (Term.elem (.static "BoxesWithBeadsModel" "POWERS" "[I") (.int (Int32.ofNat j))).eval #[Value.ref bA] s none [] s = some (.int (zstv 2 j)) := by
    intro j hj
    match j, hj with
    | 0, _ => exact va_eqt (hg (Cond.eq (.elem (.static "BoxesWithBeadsModel" "POWERS" "[I") (.int 0)) (.int 1)) (by decide +kernel))
    | 1, _ => exact va_eqt (hg (Cond.eq (.elem (.static "BoxesWithBeadsModel" "POWERS" "[I") (.int 1)) (.int 3)) (by decide +kernel))
    | 2, _ => exact va_eqt (hg (Cond.eq (.elem (.static "BoxesWithBeadsModel" "POWERS" "[I") (.int 2)) (.int 9)) (by decide +kernel))
    | 3, _ => exact va_eqt (hg (Cond.eq (.elem (.static "BoxesWithBeadsModel" "POWERS" "[I") (.int 3)) (.int 27)) (by decide +kernel))
    | 4, _ => exact va_eqt (hg (Cond.eq (.elem (.static "BoxesWithBeadsModel" "POWERS" "[I") (.int 4)) (.int 81)) (by decide +kernel))
    | 5, _ => exact va_eqt (hg (Cond.eq (.elem (.static "BoxesWithBeadsModel" "POWERS" "[I") (.int 5)) (.int 243)) (by decide +kernel))
    | 6, _ => exact va_eqt (hg (Cond.eq (.elem (.static "BoxesWithBeadsModel" "POWERS" "[I") (.int 6)) (.int 729)) (by decide +kernel))
    | 7, _ => exact va_eqt (hg (Cond.eq (.elem (.static "BoxesWithBeadsModel" "POWERS" "[I") (.int 7)) (.int 2187)) (by decide +kernel))
    | 8, _ => exact va_eqt (hg (Cond.eq (.elem (.static "BoxesWithBeadsModel" "POWERS" "[I") (.int 8)) (.int 6561)) (by decide +kernel))
    | 9, _ => exact va_eqt (hg (Cond.eq (.elem (.static "BoxesWithBeadsModel" "POWERS" "[I") (.int 9)) (.int 19683)) (by decide +kernel))
    | j + 10, h => exact absurd h (by omega)
  obtain ⟨t, h1, h2⟩ := va_Tof (tm := (.static "BoxesWithBeadsModel" "POWERS" "[I")) (ty := .int) (N := 10) (f := fun j => .int (zstv 2 j)) (A := fun q => s.heap.size ≤ q) (by decide) (hg (Cond.arrayOf (.static "BoxesWithBeadsModel" "POWERS" "[I") .int) (by decide +kernel)) (va_eqt (hg (Cond.eq (.length (.static "BoxesWithBeadsModel" "POWERS" "[I")) (.int 10)) (by decide +kernel))) hel hA
  exact ⟨t, va_Zof (hb _ (zw_in 7 183 (by decide +kernel))) (hb _ (zw_in 2 14 (by decide +kernel))) h1 hA, h2⟩
theorem lw_zTa (hts : ∀ w ∈ lw_tbl, w.before #[Value.ref bA] s = true) (hgv : (Jvm.Cond.and given_1 narrow_1).before #[Value.ref bA] s = true) : ∃ (D : va_G) (dty : FieldType → ClassId) (ts : Nat → Nat), zTa D dty s.heap.size ts true 0 s := by
  have hb := lw_zTbl hts
  have hg := flat_of_before _ hgv
  obtain ⟨D, hD⟩ := lw_cls hb
  obtain ⟨dty, hd⟩ := lw_dty hb
  obtain ⟨t0, z0, y0⟩ := lw_st0 hb hg
  obtain ⟨t1, z1, y1⟩ := lw_st1 hb hg
  obtain ⟨t2, z2, y2⟩ := lw_st2 hb hg
  refine ⟨D, dty, fun k => if k = 0 then t0 else if k = 1 then t1 else t2, ⟨hD, fun k q hq => ?_⟩, ⟨lw_nest hb, ?_, ?_⟩, fun _ => rfl, Nat.le_refl _⟩
  · rw [lTys_eq, List.getElem?_map] at hq
    obtain ⟨ty, h1, rfl⟩ := Option.map_eq_some_iff.mp hq
    exact hd ty (List.mem_of_getElem? h1)
  · intro q hq
    unfold zaov at hq
    rcases List.mem_cons.mp hq with rfl | hq
    · exact va_AO.of (hb _ zao_Chest)
    rcases List.mem_cons.mp hq with rfl | hq
    · exact va_AO.of (hb _ zao_Foe)
    rcases List.mem_cons.mp hq with rfl | hq
    · exact va_AO.of (hb _ zao_Rule)
    cases hq
  · intro k hk
    match k, hk with
    | 0, _ => exact ⟨z0, y0⟩
    | 1, _ => exact ⟨z1, y1⟩
    | 2, _ => exact ⟨z2, y2⟩
    | k + 3, h => exact absurd h (show ¬ k + 3 < 3 by omega)
end
