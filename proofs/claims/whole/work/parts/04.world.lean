-- ===== membership of the checked words =====
theorem zN_mem {α : Type} : ∀ (l : List α) (n : Nat) (x : α), zN l n = some x → x ∈ l
  | [], _, _, h => by cases h
  | y :: t, 0, x, h => by
    have h : some y = some x := h
    cases h
    exact List.mem_cons_self
  | y :: t, n + 1, x, h => List.mem_cons_of_mem _ (zN_mem t n x h)
theorem zcond_sub {P : List Cond → Prop} (b : Bool) (x y : List Cond) (hx : P x) (hy : P y) : P (bif b then x else y) := by cases b <;> assumption
theorem zTk_sub (k : Nat) : ∀ w ∈ zTk k, w ∈ zTbl := by
  have hT : ∀ w ∈ tables_1, w ∈ zTbl := fun w h => List.mem_append_right _ (List.mem_append_right _ h)
  have h0 : ∀ w ∈ zXs, w ∈ zTbl := fun w h => List.mem_append_left _ h
  have h1 : ∀ w ∈ k2_sels lw_privs, w ∈ zTbl := fun w h => List.mem_append_right _ (List.mem_append_left _ h)
  have hh : ∀ l : List Cond, (∀ w ∈ l, w ∈ tables_1) → ∀ w ∈ l, w ∈ zTbl := fun l h w hw => hT w (h w hw)
  unfold zTk
  repeat' first
    | exact h0
    | exact h1
    | refine zcond_sub (P := fun l => ∀ w ∈ l, w ∈ zTbl) _ _ _ ?_ ?_
    | refine hh _ (fun w h => ?_)
  all_goals (simp only [tables_1, List.mem_append, h, true_or, or_true])
theorem zhas_mem {d : Nat} {w : Cond} (h : zhas d w = true) : w ∈ zBase := by
  unfold zhas at h
  obtain ⟨h1, h2⟩ := Bool.and_eq_true_iff.mp h
  exact List.mem_filter.mpr ⟨zTk_sub _ _ (zN_mem _ _ _ (of_decide_eq_true h1)), h2⟩
theorem zhasC_mem {d y : Nat} (h : zhasC d y = true) : Cond.code (zna y) (zcb d) (zml y) (zrt y) ∈ zBase := by
  unfold zhasC at h
  cases hq : zN (zTk (d / 256)) (d % 256) with
  | none => rw [hq] at h; cases h
  | some q =>
    rw [hq] at h
    cases q <;> first | (cases h; done) | skip
    rename_i nm bb ml rt
    dsimp only at h
    obtain ⟨h1, h3⟩ := Bool.and_eq_true_iff.mp h
    obtain ⟨h1, h2⟩ := Bool.and_eq_true_iff.mp h1
    have e1 := of_decide_eq_true h1
    have e2 := Nat.eq_of_beq_eq_true h2
    have e3 := of_decide_eq_true h3
    have eb : zcb d = bb := by unfold zcb; rw [hq]
    rw [← e1, ← e2, ← e3, eb]
    exact List.mem_filter.mpr ⟨zTk_sub _ _ (zN_mem _ _ _ hq), rfl⟩
theorem zbase_good {w : Cond} (h : w ∈ zBase) : (w.onTables && w.keeps) = true ∨ ∃ ty, w = .arrayClass ty := good_of_word (List.mem_filter.mp h).2
def zWs (y : Nat) : List Cond := .code (zna y) (zby y) (zml y) (zrt y) :: zBase
/-- the facts of method y -/
theorem zyf {y : Nat} (hy : y < znm) : Cond.code (zna y) (zby y) (zml y) (zrt y) ∈ zBase ∧ Cond.initialized (zna y).cls ∈ zBase ∧ (zsta y = true → Cond.static (zna y) ∈ zBase) ∧ (zsta y = false → Cond.instanceMethod (zna y) ∈ zBase) ∧ (Nat.beq (zxe y) 0 = false → Cond.selects (zna y).cls (zna y) (zna y) ∈ zBase) ∧ zml y ≤ 40 ∧ plainName (zna y).cls = true := by
  have h := zmok_all y hy
  unfold zmok at h
  obtain ⟨h, h6⟩ := Bool.and_eq_true_iff.mp h
  obtain ⟨h, h5⟩ := Bool.and_eq_true_iff.mp h
  obtain ⟨h, h4⟩ := Bool.and_eq_true_iff.mp h
  obtain ⟨h, h3⟩ := Bool.and_eq_true_iff.mp h
  obtain ⟨h1, h2⟩ := Bool.and_eq_true_iff.mp h
  refine ⟨zhasC_mem h1, zhas_mem h2, fun e => ?_, fun e => ?_, fun e => ?_, Nat.le_of_ble_eq_true h5, h6⟩
  · rw [e] at h3; exact zhas_mem h3
  · rw [e] at h3; exact zhas_mem h3
  · rw [e] at h4; exact zhas_mem h4
theorem zyf2 {y : Nat} (hy : y < znm) : ((zna y).cls ≠ "java/lang/invoke/MethodHandle" ∧ (zna y).cls ≠ "java/lang/invoke/VarHandle") ∧ (parseMethodDescriptor (zna y).desc).map (fun d => d.parameters.length) = some (znar y) := by
  have h := zmok2_all y hy
  unfold zmok2 at h
  obtain ⟨h, h3⟩ := Bool.and_eq_true_iff.mp h
  obtain ⟨h1, h2⟩ := Bool.and_eq_true_iff.mp h
  exact ⟨⟨of_decide_eq_true h1, of_decide_eq_true h2⟩, of_decide_eq_true h3⟩
theorem zgood {y y' : Nat} (hy : y < znm) : GoodIn (zWs y') (zWs y) := by
  intro w hw
  have hm : w ∈ zBase := by
    rcases List.mem_cons.mp hw with rfl | h
    · exact (zyf hy).1
    · exact h
  exact ⟨List.mem_cons_of_mem _ hm, zbase_good hm⟩
/-- the facts of class c -/
theorem zcf_ok {c : Nat} (hc : c < zncl) : Cond.instantiable (zcn c) (zcf c) ∈ zBase ∧ Cond.initialized (zcn c) ∈ zBase ∧ (∀ w ∈ u_ws (zcn c) (zcT c) (zcf c), w ∈ zBase) ∧ (∀ k, k < zcf c → parseFieldDescriptor (zcT c k).2.2.1 = some (zcy c k)) ∧ (∀ i, i < zcf c → ∀ j, j < zcf c → i ≠ j → (zcT c i).2.1 ≠ (zcT c j).2.1) := by
  have h := List.all_eq_true.mp zclok_all c (List.mem_range.mpr hc)
  unfold zclok at h
  obtain ⟨h, h3⟩ := Bool.and_eq_true_iff.mp h
  obtain ⟨h1, h2⟩ := Bool.and_eq_true_iff.mp h
  have key : ∀ k, k < zcf c → zhas (zxl c k) (u_lay (zcn c) (zcT c) k) = true ∧ parseFieldDescriptor (zcT c k).2.2.1 = some (zcy c k) ∧ ∀ j, j < zcf c → j ≠ k → (zcT c j).2.1 ≠ (zcT c k).2.1 := by
    intro k hk
    have q := List.all_eq_true.mp h3 k (List.mem_range.mpr hk)
    obtain ⟨q, q3⟩ := Bool.and_eq_true_iff.mp q
    obtain ⟨q1, q2⟩ := Bool.and_eq_true_iff.mp q
    refine ⟨q1, of_decide_eq_true q2, fun j hj hne => ?_⟩
    have r := List.all_eq_true.mp q3 j (List.mem_range.mpr hj)
    rcases Bool.or_eq_true_iff.mp r with r | r
    · exact absurd (Nat.eq_of_beq_eq_true r) hne
    · exact of_decide_eq_true r
  refine ⟨zhas_mem h1, zhas_mem h2, fun w hw => ?_, fun k hk => (key k hk).2.1, fun i hi j hj hne => (key j hj).2.2 i hi hne⟩
  obtain ⟨k, hk, rfl⟩ := List.mem_map.mp hw
  exact zhas_mem (key k (List.mem_range.mp hk)).1
theorem zCl_eq : zCl = (List.range zncl).map (fun c => (zcn c, zcT c, zcf c)) := rfl
theorem zCl_get {c : Nat} (hc : c < zncl) : zCl[c]? = some (zcn c, zcT c, zcf c) := by
  rw [zCl_eq, List.getElem?_map, List.getElem?_range hc]
  rfl
theorem zsub_ok {c a k : Nat} (h : zsub c a = true) (ha : a < zncl) (hk : k < zcf a) (hc : c < zncl) : zcT c k = zcT a k ∧ zcy c k = zcy a k ∧ k < zcf c := by
  unfold zsub at h
  rcases Bool.or_eq_true_iff.mp h with h | h
  · cases Nat.eq_of_beq_eq_true h
    exact ⟨rfl, rfl, hk⟩
  · obtain ⟨h1, h2⟩ := Bool.and_eq_true_iff.mp h
    cases Nat.eq_of_beq_eq_true h1
    cases Nat.eq_of_beq_eq_true h2
    have q := List.all_eq_true.mp zsub_fields k (List.mem_range.mpr hk)
    obtain ⟨q1, q2⟩ := Bool.and_eq_true_iff.mp q
    exact ⟨of_decide_eq_true q1, of_decide_eq_true q2, Nat.lt_of_lt_of_le hk zsub_len⟩
/-- a private method on a subclass -/
theorem zselp {C : String} {y : MethodName} {s : State} {args : Array Value} {n n2 : Nat} (hy : y.cls ≠ "java/lang/invoke/MethodHandle" ∧ y.cls ≠ "java/lang/invoke/VarHandle")
    (hinC : (Cond.instantiable C n2).before args s = true) (hins : (Cond.instantiable y.cls n).before args s = true) (hpriv : (Cond.privateMethod y).before args s = true) (hinst : (Cond.instanceMethod y).before args s = true) :
    (Cond.selects C y y).before args s = true := by
  obtain ⟨c, k, hc, hk, -, hniab, -, -⟩ := Cond.instantiable_spec hins
  obtain ⟨c2, k2, hc2, hk2, -, hniab2, -, -⟩ := Cond.instantiable_spec hinC
  have hni : k.isInterface = false := (Bool.or_eq_false_iff.mp hniab).1
  have hni2 : k2.isInterface = false := (Bool.or_eq_false_iff.mp hniab2).1
  obtain ⟨mk, methM, hnamed, hmethM, -, -⟩ := Cond.instanceMethod_spec hinst
  have hfound : s.methodFound? y.cls y.name y.desc = some mk := State.methodFound?_of_named hnamed hy
  have hcls : mk.cls = c := Option.some.inj ((findClass_of_methodNamed hnamed).symm.trans hc)
  have hsel : selectMethod {} s.vm c2 mk = .method mk := selectMethod_private hmethM (Cond.privateMethod_at hpriv mk methM hnamed hmethM)
  simp only [Cond.before, Cond.holds, Cond.value, hc, hc2, hfound, hnamed, hsel, hcls, hk, hk2]
  simp [hni, hni2]
-- ===== the plan =====
theorem zid_zpos : ∀ o, o < zNN → zid (zpos o) = o := by
  have h : (List.range zNN).all (fun o => Nat.beq (zid (zpos o)) o) = true := by decide +kernel
  exact fun o ho => Nat.eq_of_beq_eq_true (List.all_eq_true.mp h o (List.mem_range.mpr ho))
theorem zpos_zid : ∀ i, i < zNN → zpos (zid i) = i ∧ zid i < zNN := by
  have h : (List.range zNN).all (fun o => Nat.beq (zpos (zid o)) o && Nat.blt (zid o) zNN) = true := by decide +kernel
  intro o ho
  obtain ⟨h1, h2⟩ := Bool.and_eq_true_iff.mp (List.all_eq_true.mp h o (List.mem_range.mpr ho))
  exact ⟨Nat.eq_of_beq_eq_true h1, Nat.le_of_ble_eq_true h2⟩
theorem zin_spec {o N : Nat} (h : zin o N = true) : zpos o < N ∧ o < zNN := by
  obtain ⟨h1, h2⟩ := Bool.and_eq_true_iff.mp h
  exact ⟨Nat.le_of_ble_eq_true h1, Nat.le_of_ble_eq_true h2⟩
theorem zNN_small : zNN < 1000000 := by decide +kernel
theorem zin_of {i N : Nat} (h : i < N) (hN : i < zNN) : zin (zid i) N = true := by
  obtain ⟨h1, h2⟩ := zpos_zid i hN
  unfold zin
  rw [h1]
  exact Bool.and_eq_true_iff.mpr ⟨Nat.ble_eq_true_of_le h, Nat.ble_eq_true_of_le h2⟩
/-- every object of the plan is of a class of ours -/
theorem zk_cls : ∀ o c, o < zNN → zk o = .inr c → c < zncl := by
  have h : (List.range zNN).all (fun o => match zk o with | .inr c => Nat.blt c zncl | .inl _ => true) = true := by decide +kernel
  intro o c ho hc
  have q := List.all_eq_true.mp h o (List.mem_range.mpr ho)
  rw [hc] at q
  exact Nat.le_of_ble_eq_true q
def zaT (ty : FieldType) : Option Nat := match ty with
  | .int => some 0
  | .long => some 1
  | .byte => some 2
  | .boolean => some 3
  | .char => some 4
  | .object C => (zaix C).map (5 + ·)
  | _ => none
theorem zTys_get (dty : FieldType → ClassId) {ty : FieldType} {i : Nat} (h : zaT ty = some i) : (zTys dty)[i]? = some (dty ty, ty) := by
  cases ty with
  | int => cases h; rfl
  | long => cases h; rfl
  | byte => cases h; rfl
  | boolean => cases h; rfl
  | char => cases h; rfl
  | object C =>
    obtain ⟨j, hj, rfl⟩ := Option.map_eq_some_iff.mp h
    exact zaix_get dty hj
  | _ => cases h
/-- every array of the plan is of a kind that stands in zTys -/
theorem zk_arr : ∀ o ty n, o < zNN → zk o = .inl (ty, n) → ∃ i, zaT ty = some i := by
  have h : (List.range zNN).all (fun o => match zk o with | .inl (ty, _) => (zaT ty).isSome | .inr _ => true) = true := by decide +kernel
  intro o ty n ho hc
  have q := List.all_eq_true.mp h o (List.mem_range.mpr ho)
  rw [hc] at q
  exact Option.isSome_iff_exists.mp q
/-- how much room the first N objects take -/
def zsz (o : Nat) : Nat := match zk o with
  | .inl (_, n) => n
  | .inr c => zcf c
def zsl : Nat → Nat
  | 0 => 0
  | n + 1 => zsl n + zsz (zid n)
theorem zsl_mono {a b : Nat} (h : a ≤ b) : zsl a ≤ zsl b := by
  induction h with
  | refl => exact Nat.le_refl _
  | step _ ih => exact Nat.le_trans ih (Nat.le_add_right _ _)
-- ===== the world =====
def zad (b : Nat) (ts : Nat → Nat) (o : Nat) : Nat := bif Nat.blt o 1000000 then b + zpos o else ts (o - 1000000)
def zrn (b : Nat) (ts : Nat → Nat) (v : Value) : Value := match v with
  | .ref o => .ref (zad b ts o)
  | v => v
def zfv (b : Nat) (ts : Nat → Nat) (kind : Nat) (i : Int32) (x : Int64) (r : Option Nat) : Value := match kind with
  | 0 => .int i
  | 1 => .long x
  | _ => va_rf (r.map (zad b ts))
def zfs (b : Nat) (ts : Nat → Nat) (c : Nat) (I : zI) (L : zL) (R : zR) (o : Nat) : List Value := (List.range (zcf c)).map fun k => zfv b ts (zfk c k) (I o k) (L o k) (R o k)
def zar (b : Nat) (ts : Nat → Nat) (ty : FieldType) (I : zI) (L : zL) (R : zR) (o : Nat) : (Nat → Int32) ⊕ (Nat → Int64) ⊕ (Nat → UInt32) ⊕ (Nat → UInt64) ⊕ (Nat → Option Nat) := match ty with
  | .long => .inr (.inl (L o))
  | .object _ => .inr (.inr (.inr (.inr fun j => (R o j).map (zad b ts))))
  | _ => .inl (I o)
def zen (dty : FieldType → ClassId) (b : Nat) (ts : Nat → Nat) (I : zI) (L : zL) (R : zR) (o : Nat) : va_E := match zk o with
  | .inl (ty, n) => .inl (dty ty, n, zar b ts ty I L R o)
  | .inr c => .inr (c, zfs b ts c I L R o)
def zws (dty : FieldType → ClassId) (b : Nat) (ts : Nat → Nat) (N : Nat) (I : zI) (L : zL) (R : zR) : va_W := (List.range N).map fun i => (b + i, zen dty b ts I L R (zid i))
theorem zad_in {b : Nat} {ts : Nat → Nat} {o : Nat} (h : o < zNN) : zad b ts o = b + zpos o := by
  have h1 : Nat.blt o 1000000 = true := Nat.ble_eq_true_of_le (Nat.lt_trans h zNN_small)
  unfold zad
  rw [h1]
  rfl
theorem zws_get {dty : FieldType → ClassId} {b : Nat} {ts : Nat → Nat} {o N : Nat} {I : zI} {L : zL} {R : zR} (h : zin o N = true) : (zws dty b ts N I L R)[zpos o]? = some (zad b ts o, zen dty b ts I L R o) := by
  obtain ⟨h1, h2⟩ := zin_spec h
  unfold zws
  rw [List.getElem?_map, List.getElem?_range h1, zad_in h2]
  show some (b + zpos o, zen dty b ts I L R (zid (zpos o))) = _
  rw [zid_zpos o h2]
theorem zws_set {dty : FieldType → ClassId} {b : Nat} {ts : Nat → Nat} {o N : Nat} {I I' : zI} {L L' : zL} {R R' : zR} (hN : N ≤ zNN) (h : zin o N = true) (he : ∀ o', o' ≠ o → zen dty b ts I' L' R' o' = zen dty b ts I L R o') : (zws dty b ts N I L R).set (zpos o) (zad b ts o, zen dty b ts I' L' R' o) = zws dty b ts N I' L' R' := by
  obtain ⟨h1, h2⟩ := zin_spec h
  apply List.ext_getElem?
  intro i
  by_cases hi : i = zpos o
  · subst hi
    rw [List.getElem?_set_self (by simp [zws]; exact h1), zws_get h]
  · rw [List.getElem?_set_ne (Ne.symm hi)]
    unfold zws
    rw [List.getElem?_map, List.getElem?_map]
    by_cases hN' : i < N
    · rw [List.getElem?_range hN']
      have hz := zpos_zid i (Nat.lt_of_lt_of_le hN' hN)
      show some (b + i, zen dty b ts I L R (zid i)) = some (b + i, zen dty b ts I' L' R' (zid i))
      rw [he (zid i) (fun q => hi (by rw [← q]; exact hz.1.symm))]
    · rw [List.getElem?_eq_none (by simp; omega)]
      rfl
theorem zen_congr {dty : FieldType → ClassId} {b : Nat} {ts : Nat → Nat} {o : Nat} {I I' : zI} {L L' : zL} {R R' : zR} (h1 : I' o = I o) (h2 : L' o = L o) (h3 : R' o = R o) : zen dty b ts I' L' R' o = zen dty b ts I L R o := by
  unfold zen zar zfs
  rw [h1, h2, h3]
theorem zup_ne {α : Type} {f : Nat → Nat → α} {o k o' : Nat} {v : α} (h : o' ≠ o) : zup f o k v o' = f o' := by
  funext j
  simp [zup, h]
theorem zrow_ne {α : Type} {f : Nat → Nat → α} {o o' : Nat} {g : Nat → α} (h : o' ≠ o) : zrow f o g o' = f o' := by
  funext j
  simp [zrow, h]
theorem zrow_eq {α : Type} {f : Nat → Nat → α} {o : Nat} {g : Nat → α} : zrow f o g o = g := by
  funext j
  simp [zrow]
theorem zup_eq {α : Type} {f : Nat → Nat → α} {o k j : Nat} {v : α} : zup f o k v o j = if j = k then v else f o j := by
  simp [zup]
