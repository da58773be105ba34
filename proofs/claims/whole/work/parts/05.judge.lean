-- ===== the judgements: a method's contract, a place in a method =====
def zA (b N0 sz : Nat) : Nat → Prop := fun q => (b ≤ q ∧ q < b + N0) ∨ sz ≤ q
def zS (b : Nat) (ts : Nat → Nat) (k : Nat) (U : State) : Prop := va_Z (zstc k) (zstm k) "[I" (.ref (ts k)) (fun q => b ≤ q) U U.heap ∧ va_T .int (ts k) (zstn k) (fun j => .int (zstv k j)) (fun q => b ≤ q) U U.heap
def zEx (b : Nat) (ts : Nat → Nat) (U : State) : Prop := (∀ w ∈ zNest, va_Nw w U) ∧ (∀ q ∈ zaov, va_AO q.1 U) ∧ ∀ k, k < znst → zS b ts k U
/-- what stands beside the heap's rows -/
def zTa (D : va_G) (dty : FieldType → ClassId) (b : Nat) (ts : Nat → Nat) (fl : Bool) (N : Nat) (U : State) : Prop := va_K D zCl (zTys dty) U ∧ zEx b ts U ∧ (fl = true → U.heap.size = b + N) ∧ b + N ≤ U.heap.size
def zPre (D : va_G) (dty : FieldType → ClassId) (b : Nat) (ts : Nat → Nat) (fl : Bool) (sz N : Nat) (I : zI) (L : zL) (R : zR) (U : State) : Prop := U.heap.size = sz ∧ va_P D zCl (zws dty b ts N I L R) U.heap ∧ zTa D dty b ts fl N U
def zQc (D : va_G) (dty : FieldType → ClassId) (b : Nat) (ts : Nat → Nat) (sz N0 E : Nat) (post : zPo) : Array Value → State → Outcome → State → Prop := fun _ st oc t => (∃ (q : Option Value) (I : zI) (L : zL) (R : zR), oc = .returned (q.map (zrn b ts)) ∧ post q I L R ∧ va_P D zCl (zws dty b ts E I L R) t.heap) ∧ va_F (zA b N0 sz) st t
def zrm (n N0 E : Nat) : Room := { frames := n, cells := E - N0, slots := zsl E - zsl N0, locals := 64 * n }
abbrev zG : Type := Launch × va_G × (FieldType → ClassId) × Nat × (Nat → Nat) × Bool
/-- THE CONTRACT: from N0 objects with rows I L R, method y on these arguments ends with E objects and 'post' -/
def zCon (G : zG) (n : Nat) : zCo := fun y N0 E as I L R post => match G with
  | (l, D, dty, b, ts, fl) => N0 ≤ E ∧ E ≤ zNN ∧ y < znm ∧ (fl = false → E = N0) ∧ ∀ sz : Nat, Met l (zna y) (zWs y) (zrm n N0 E) (va_Pc (as.map (zrn b ts)) (zPre D dty b ts fl sz N0 I L R)) (zQc D dty b ts sz N0 E post) (E - N0) (zsl E - zsl N0) (zA b N0 sz)
def zlh (b : Nat) (ts : Nat → Nat) (nL : Nat) (lv : zLv) (ls : Array Slot) : Prop := ls.size = nL ∧ lv_wf ls ∧ ∀ (i : Nat) (v : Value), zgl lv i = some v → ls[i]? = some (.val (zrn b ts v))
/-- what a method's walk stands on -/
def zcx (G : zG) (p : Program) (y n N0 E : Nat) (s : State) (args : Array Value) (m : MethodId) (meth : Method) (c : Code) : Prop := match G with
  | (_, D, dty, b, ts, fl) => p.tables.exec = Jvm.exec ∧ c.code = zby y ∧ c.maxLocals = zml y ∧ s.vm.findClass (zna y).cls = some m.cls ∧ (∀ w ∈ zWs y, w.before args s = true) ∧ meth.sig.returnType = zrt y ∧ meth.locks = false ∧ (((zna y).name == "<init>") = true → meth.name = "<init>") ∧ zTa D dty b ts fl N0 s ∧ N0 ≤ E ∧ E ≤ zNN ∧ y < znm ∧ (fl = false → E = N0)
/-- THE PLACE: at pc, with these locals, stack and rows, the method comes to its end with 'post' -/
def zP (G : zG) (y n N0 E : Nat) (post : zPo) : zKo := fun pc lv st N I L R => match G with
  | (l, D, dty, b, ts, fl) => ∀ (p : Program) (e : Env) (s : State) (m : MethodId) (args : Array Value) (below : List Frame) (meth : Method) (c : Code), zcx G p y n N0 E s args m meth c →
    ∀ (H : Heap) (locs : List Loc) (ls : Array Slot), va_P D zCl (zws dty b ts N I L R) H → va_S (zA b N0 s.heap.size) s.heap H locs → zlh b ts (zml y) lv ls → N0 ≤ N → N ≤ E →
      W p l e (zrm (n + 1) N0 E) s m args below meth c H locs (N - N0) (zsl N - zsl N0) (MQ below (zQc D dty b ts s.heap.size N0 E post) args s (E - N0) (zsl E - zsl N0) (zA b N0 s.heap.size)) (F0 m pc ls (st.map (zrn b ts)))
-- ===== locals =====
theorem zrn_cat (b : Nat) (ts : Nat → Nat) (v : Value) : (zrn b ts v).category = v.category := by cases v <;> rfl
theorem zgl_sl1 : ∀ (lv : zLv) (i : Nat) (v : Value) (j : Nat) (w : Value), zgl (zsl1 lv i v) j = some w → (j = i ∧ w = v) ∨ (j ≠ i ∧ zgl lv j = some w ∧ ¬ (j + 1 = i ∧ w.category = 2))
  | [], _, _, _, _, h => by cases h
  | x :: t, 0, v, 0, w, h => by
    have h : some v = some w := h
    cases h
    exact Or.inl ⟨rfl, rfl⟩
  | x :: t, 0, v, j + 1, w, h => Or.inr ⟨by omega, h, by omega⟩
  | x :: t, i + 1, v, 0, w, h => by
    have h : zkill i x = some w := h
    refine Or.inr ⟨by omega, ?_, ?_⟩
    · show x = some w
      unfold zkill at h
      split at h
      · cases h
      · cases h
      · exact h
    · rintro ⟨e, hc⟩
      have e : i = 0 := by omega
      subst e
      unfold zkill at h
      split at h
      · cases h
      · cases h
      · subst h
        cases w <;> first | (cases hc; done) | simp_all
  | x :: t, i + 1, v, j + 1, w, h => by
    rcases zgl_sl1 t i v j w h with ⟨h1, h2⟩ | ⟨h1, h2, h3⟩
    · exact Or.inl ⟨by omega, h2⟩
    · exact Or.inr ⟨by omega, h2, by omega⟩
theorem zgl_n1 : ∀ (t : zLv) (j : Nat) (w : Value), zgl (zn1 t) j = some w → j ≠ 0 ∧ zgl t j = some w
  | [], _, _, h => by cases h
  | x :: t, 0, w, h => by cases h
  | x :: t, j + 1, w, h => ⟨by omega, h⟩
theorem zgl_sl2 : ∀ (lv : zLv) (i : Nat) (v : Value) (j : Nat) (w : Value), zgl (zsl2 lv i v) j = some w → (j = i ∧ w = v) ∨ (j ≠ i ∧ j ≠ i + 1 ∧ zgl lv j = some w ∧ ¬ (j + 1 = i ∧ w.category = 2))
  | [], _, _, _, _, h => by cases h
  | x :: t, 0, v, 0, w, h => by
    have h : some v = some w := h
    cases h
    exact Or.inl ⟨rfl, rfl⟩
  | x :: t, 0, v, j + 1, w, h => by
    obtain ⟨h1, h2⟩ := zgl_n1 t j w h
    exact Or.inr ⟨by omega, by omega, h2, by omega⟩
  | x :: t, i + 1, v, 0, w, h => by
    have h : zkill i x = some w := h
    refine Or.inr ⟨by omega, by omega, ?_, ?_⟩
    · show x = some w
      unfold zkill at h
      split at h
      · cases h
      · cases h
      · exact h
    · rintro ⟨e, hc⟩
      have e : i = 0 := by omega
      subst e
      unfold zkill at h
      split at h
      · cases h
      · cases h
      · subst h
        cases w <;> first | (cases hc; done) | simp_all
  | x :: t, i + 1, v, j + 1, w, h => by
    rcases zgl_sl2 t i v j w h with ⟨h1, h2⟩ | ⟨h1, h1', h2, h3⟩
    · exact Or.inl ⟨by omega, h2⟩
    · exact Or.inr ⟨by omega, by omega, h2, by omega⟩
theorem zlh_sl1 {b : Nat} {ts : Nat → Nat} {nL i : Nat} {lv : zLv} {ls : Array Slot} {v : Value} (h : zlh b ts nL lv ls) (hi : i < nL) (hc : v.category = 1) : ∃ ls', storeLocals ls i (zrn b ts v) = some ls' ∧ zlh b ts nL (zsl1 lv i v) ls' := by
  obtain ⟨h1, h2, h3⟩ := h
  have hc' : (zrn b ts v).category = 1 := by rw [zrn_cat]; exact hc
  obtain ⟨ls', e', q1, q2, q3⟩ := lv_store1 (l := []) ⟨h1, h2, fun q hq => absurd hq List.not_mem_nil⟩ hi hc'
  refine ⟨ls', e', q1, q2, fun j w hw => ?_⟩
  rcases zgl_sl1 lv i v j w hw with ⟨rfl, rfl⟩ | ⟨g1, g2, g3⟩
  · exact q3 (j, zrn b ts w) List.mem_cons_self
  · obtain ⟨ls2, e2, -, -, r3⟩ := lv_store1 (l := [(j, zrn b ts w)]) ⟨h1, h2, fun q hq => by rw [List.mem_singleton.mp hq]; exact h3 j w g2⟩ hi hc'
    cases e'.symm.trans e2
    refine r3 (j, zrn b ts w) (List.mem_cons_of_mem _ (List.mem_filter.mpr ⟨List.mem_singleton.mpr rfl, ?_⟩))
    have a1 : (j == i) = false := beq_eq_false_iff_ne.mpr g1
    have a2 : (j + 1 == i && (zrn b ts w).category == 2) = false := by
      cases q : (j + 1 == i && (zrn b ts w).category == 2) with
      | false => rfl
      | true =>
        obtain ⟨x1, x2⟩ := Bool.and_eq_true_iff.mp q
        exact absurd ⟨beq_iff_eq.mp x1, by rw [← zrn_cat b ts w]; exact beq_iff_eq.mp x2⟩ g3
    show (!(j == i) && !(j + 1 == i && (zrn b ts w).category == 2)) = true
    rw [a1, a2]
    rfl
theorem zlh_sl2 {b : Nat} {ts : Nat → Nat} {nL i : Nat} {lv : zLv} {ls : Array Slot} {v : Value} (h : zlh b ts nL lv ls) (hi : i + 1 < nL) (hc : v.category = 2) : ∃ ls', storeLocals ls i (zrn b ts v) = some ls' ∧ zlh b ts nL (zsl2 lv i v) ls' := by
  obtain ⟨h1, h2, h3⟩ := h
  have hc' : (zrn b ts v).category = 2 := by rw [zrn_cat]; exact hc
  obtain ⟨ls', e', q1, q2, q3⟩ := lv_store2 (l := []) ⟨h1, h2, fun q hq => absurd hq List.not_mem_nil⟩ hi hc'
  refine ⟨ls', e', q1, q2, fun j w hw => ?_⟩
  rcases zgl_sl2 lv i v j w hw with ⟨rfl, rfl⟩ | ⟨g1, g1', g2, g3⟩
  · exact q3 (j, zrn b ts w) List.mem_cons_self
  · obtain ⟨ls2, e2, -, -, r3⟩ := lv_store2 (l := [(j, zrn b ts w)]) ⟨h1, h2, fun q hq => by rw [List.mem_singleton.mp hq]; exact h3 j w g2⟩ hi hc'
    cases e'.symm.trans e2
    refine r3 (j, zrn b ts w) (List.mem_cons_of_mem _ (List.mem_filter.mpr ⟨List.mem_singleton.mpr rfl, ?_⟩))
    have a1 : (j == i) = false := beq_eq_false_iff_ne.mpr g1
    have a1' : (j == i + 1) = false := beq_eq_false_iff_ne.mpr g1'
    have a2 : (j + 1 == i && (zrn b ts w).category == 2) = false := by
      cases q : (j + 1 == i && (zrn b ts w).category == 2) with
      | false => rfl
      | true =>
        obtain ⟨x1, x2⟩ := Bool.and_eq_true_iff.mp q
        exact absurd ⟨beq_iff_eq.mp x1, by rw [← zrn_cat b ts w]; exact beq_iff_eq.mp x2⟩ g3
    show (!(j == i) && (!(j == i + 1) && !(j + 1 == i && (zrn b ts w).category == 2))) = true
    rw [a1, a1', a2]
    rfl
/-- the entry: the arguments in their places -/
def zpa : List Value → zLv
  | [] => []
  | v :: t => if v.category = 2 then some v :: none :: zpa t else some v :: zpa t
theorem zpa_args {b : Nat} {ts : Nat → Nat} : ∀ (as : List Value) (i j : Nat) (w : Value), zgl (zpa as) j = some w → (i + j, zrn b ts w) ∈ lv_args i (as.map (zrn b ts))
  | [], _, _, _, h => by cases h
  | v :: t, i, j, w, h => by
    unfold zpa at h
    show (i + j, zrn b ts w) ∈ (i, zrn b ts v) :: lv_args (if (zrn b ts v).category = 2 then i + 2 else i + 1) (t.map (zrn b ts))
    rw [zrn_cat]
    by_cases hc : v.category = 2
    · rw [if_pos hc] at h ⊢
      match j, h with
      | 0, h =>
        have h : some v = some w := h
        cases h
        exact List.mem_cons_self
      | 1, h => cases h
      | j + 2, h =>
        have q := zpa_args (b := b) (ts := ts) t (i + 2) j w h
        rw [show i + (j + 2) = i + 2 + j by omega]
        exact List.mem_cons_of_mem _ q
    · rw [if_neg hc] at h ⊢
      match j, h with
      | 0, h =>
        have h : some v = some w := h
        cases h
        exact List.mem_cons_self
      | j + 1, h =>
        have q := zpa_args (b := b) (ts := ts) t (i + 1) j w h
        rw [show i + (j + 1) = i + 1 + j by omega]
        exact List.mem_cons_of_mem _ q
def zpd : Nat → zLv → zLv
  | 0, l => l
  | n + 1, [] => none :: zpd n []
  | n + 1, x :: t => x :: zpd n t
theorem zgl_pd : ∀ (n : Nat) (l : zLv) (j : Nat) (w : Value), zgl (zpd n l) j = some w → zgl l j = some w
  | 0, _, _, _, h => h
  | n + 1, [], 0, _, h => by cases h
  | n + 1, [], j + 1, w, h => by
    have q := zgl_pd n [] j w h
    cases q
  | n + 1, x :: t, 0, _, h => h
  | n + 1, x :: t, j + 1, w, h => zgl_pd n t j w h
theorem lg_sl_len : ∀ as : List Value, (lg_sl as).length = (as.map fun v => if v.category = 2 then 2 else 1).sum
  | [] => rfl
  | v :: t => by
    have h := lg_sl_len t
    simp only [lg_sl, List.flatMap_cons, List.length_append, List.map_cons, List.sum_cons] at h ⊢
    rw [h]
    by_cases hc : v.category = 2
    · rw [if_pos hc, if_pos hc]; rfl
    · rw [if_neg hc, if_neg hc]; rfl
def zwd : List Value → Nat
  | [] => 0
  | v :: t => (match v with
    | .long _ => 2
    | .double _ => 2
    | _ => 1) + zwd t
theorem zwd_len (b : Nat) (ts : Nat → Nat) : ∀ as : List Value, (lg_sl (as.map (zrn b ts))).length = zwd as
  | [] => rfl
  | v :: t => by
    have h := zwd_len b ts t
    rw [lg_sl_len] at h ⊢
    show (if (zrn b ts v).category = 2 then 2 else 1) + ((t.map (zrn b ts)).map fun v => if v.category = 2 then 2 else 1).sum = _
    rw [h, zrn_cat]
    cases v <;> rfl
theorem zlh_entry {b : Nat} {ts : Nat → Nat} (as : List Value) {nL k : Nat} (h : Nat.ble (zwd as) nL = true) : zlh b ts nL (zpd k (zpa as)) ((lg_sl (as.map (zrn b ts)) ++ List.replicate (nL - (lg_sl (as.map (zrn b ts))).length) Slot.unset).toArray) := by
  obtain ⟨h1, h2, h3⟩ := lv_entry (as.map (zrn b ts)) (n := nL) (by rw [zwd_len]; exact Nat.le_of_ble_eq_true h)
  refine ⟨h1, h2, fun i v hv => ?_⟩
  have q := zpa_args (b := b) (ts := ts) as 0 i v (zgl_pd k _ _ _ hv)
  rw [Nat.zero_add] at q
  exact h3 _ q
-- ===== the frame and the addresses =====
theorem zD {dty : FieldType → ClassId} {b : Nat} {ts : Nat → Nat} {fl : Bool} {N0 N sz : Nat} {I : zI} {L : zL} {R : zR} (h1 : fl = true → sz = b + N0) (h2 : fl = false → N = N0) : va_D (zA b N0 sz) (zws dty b ts N I L R) := by
  have key : ∀ (i : Nat) (q : Nat × va_E), (zws dty b ts N I L R)[i]? = some q → i < N ∧ q.1 = b + i := by
    intro i q hq
    unfold zws at hq
    rw [List.getElem?_map] at hq
    by_cases hi : i < N
    · rw [List.getElem?_range hi] at hq
      cases hq
      exact ⟨hi, rfl⟩
    · rw [List.getElem?_eq_none (by simp; omega)] at hq
      cases hq
  refine ⟨fun i j p q hp hq e => ?_, fun k q hq => ?_⟩
  · have a1 := (key i p hp).2
    have a2 := (key j q hq).2
    omega
  · obtain ⟨a1, a2⟩ := key k q hq
    rw [a2]
    by_cases hk : k < N0
    · exact Or.inl ⟨by omega, by omega⟩
    · refine Or.inr ?_
      cases fl with
      | true => rw [h1 rfl]; omega
      | false => have := h2 rfl; omega
theorem zA_le {b N0 sz q : Nat} (h : b + N0 ≤ sz) (hq : zA b N0 sz q) : b ≤ q := by
  rcases hq with ⟨h1, _⟩ | h1
  · exact h1
  · omega
theorem zS.moved {b : Nat} {ts : Nat → Nat} {k N0 sz : Nat} {u U : State} (hvm : u.vm.Alike U.vm) (hk : ∀ a : Nat, a < u.heap.size → ¬ b ≤ a → U.heap[a]? = u.heap[a]?) (h : zS b ts k u) : zS b ts k U := ⟨(h.1.kept hk).moved hvm, (h.2.kept hk).moved hvm⟩
def zisN (w : Cond) : Bool := match w with
  | .methodLinkNest _ _ _ _ => true
  | .fieldLinkNest _ _ _ _ _ _ => true
  | _ => false
theorem zNest_warm {s U : State} (hW : s.WarmedH U.vm) (h : ∀ w ∈ zNest, va_Nw w s) : ∀ w ∈ zNest, va_Nw w U := by
  intro w hw
  have hs := h w hw
  have hf : zisN w = true := List.all_eq_true.mp (show zNest.all zisN = true by rfl) w hw
  cases w <;> first | (cases hf; done) | exact va_Nw.warmM hW hs | exact va_Nw.warmF hW hs
/-- what stands beside the heap, at a callee's start -/
theorem zTa_call {D : va_G} {dty : FieldType → ClassId} {b : Nat} {ts : Nat → Nat} {fl : Bool} {N0 N : Nat} {s U : State} {H : Heap} {locs : List Loc} (h : zTa D dty b ts fl N0 s) (hS : va_S (zA b N0 s.heap.size) s.heap H locs) (hfl : fl = true → H.size = b + N) (hN : fl = false → N = N0) (hU : U.heap = H) (hW : s.WarmedH U.vm) : zTa D dty b ts fl N U := by
  obtain ⟨h1, ⟨h2, h3, h4⟩, h5, h6⟩ := h
  refine ⟨va_K.moved hW.alike h1, ⟨zNest_warm hW h2, fun q hq => (h3 q hq).moved hW.alike, fun k hk => (h4 k hk).moved (N0 := N0) (sz := 0) hW.alike fun a ha hb => ?_⟩, fun q => by rw [hU]; exact hfl q, ?_⟩
  · rw [hU]
    exact hS.2.1 a ha (fun z => hb (zA_le h6 z))
  · rw [hU]
    cases fl with
    | true => rw [hfl rfl]; exact Nat.le_refl _
    | false => rw [hN rfl]; exact Nat.le_trans h6 hS.1
/-- what stands beside the heap, for the callee's cells -/
theorem zA_call {fl : Bool} {b N0 N sz hz q : Nat} (h1 : fl = true → sz = b + N0) (h2 : fl = false → N = N0) (hs : sz ≤ hz) (hN : N0 ≤ N) (hq : zA b N hz q) : zA b N0 sz q := by
  rcases hq with ⟨a1, a2⟩ | a1
  · cases fl with
    | true =>
      have e := h1 rfl
      by_cases hk : q < b + N0
      · exact Or.inl ⟨a1, hk⟩
      · exact Or.inr (by omega)
    | false => rw [h2 rfl] at a2; exact Or.inl ⟨a1, a2⟩
  · exact Or.inr (by omega)
theorem zsize {p : Program} {l : Launch} {e : Env} {Rm : Room} {s : State} {m : MethodId} {args : Array Value} {below : List Frame} {meth : Method} {c : Code} {T : State} {H : Heap} {locs : List Loc} {slots : Nat} {D : va_G} {dty : FieldType → ClassId} {b : Nat} {ts : Nat → Nat} {fl : Bool} {N0 N : Nat} {I : zI} {L : zL} {R : zR} {A : Nat → Prop}
    (X : Stand p l e Rm s m args below meth c T locs (N - N0) slots) (hT : T.heap = H) (hP : va_P D zCl (zws dty b ts N I L R) H) (hS : va_S A s.heap H locs) (h1 : fl = true → s.heap.size = b + N0) (h2 : b + N0 ≤ s.heap.size) (hN : N0 ≤ N) : fl = true → H.size = b + N := by
  intro hf
  have u := X.same.2.2.1
  have u : T.heap.size ≤ s.heap.size + (N - N0) := u
  rw [hT, h1 hf] at u
  have lo : b + N ≤ H.size := by
    by_cases hz : N = N0
    · rw [hz]; exact Nat.le_trans h2 hS.1
    · have hk : (zws dty b ts N I L R)[N - 1]? = some (b + (N - 1), zen dty b ts I L R (zid (N - 1))) := by
        unfold zws
        rw [List.getElem?_map, List.getElem?_range (by omega)]
        rfl
      have q : b + (N - 1) < H.size := (hP (N - 1) _ hk).lt
      omega
  omega
