-- ===== what the combinators say =====
theorem zck_s {b : Bool} {p : Prop} (h : zck b p) : b = true ∧ p := by cases b <;> first | exact ⟨rfl, h⟩ | exact h.elim
theorem zi1_s {st : List Value} {k : Int32 → List Value → Prop} (h : zi1 st k) : ∃ x r, st = .int x :: r ∧ k x r := by
  unfold zi1 at h
  split at h
  · exact ⟨_, _, rfl, h⟩
  · exact h.elim
theorem zi2_s {st : List Value} {k : Int32 → Int32 → List Value → Prop} (h : zi2 st k) : ∃ x y r, st = .int y :: .int x :: r ∧ k x y r := by
  unfold zi2 at h
  split at h
  · exact ⟨_, _, _, rfl, h⟩
  · exact h.elim
theorem zl1_s {st : List Value} {k : Int64 → List Value → Prop} (h : zl1 st k) : ∃ x r, st = .long x :: r ∧ k x r := by
  unfold zl1 at h
  split at h
  · exact ⟨_, _, rfl, h⟩
  · exact h.elim
theorem zl2_s {st : List Value} {k : Int64 → Int64 → List Value → Prop} (h : zl2 st k) : ∃ x y r, st = .long y :: .long x :: r ∧ k x y r := by
  unfold zl2 at h
  split at h
  · exact ⟨_, _, _, rfl, h⟩
  · exact h.elim
theorem zli_s {st : List Value} {k : Int64 → Int32 → List Value → Prop} (h : zli st k) : ∃ x y r, st = .int y :: .long x :: r ∧ k x y r := by
  unfold zli at h
  split at h
  · exact ⟨_, _, _, rfl, h⟩
  · exact h.elim
theorem zr1_s {st : List Value} {k : Nat → List Value → Prop} (h : zr1 st k) : ∃ x r, st = .ref x :: r ∧ k x r := by
  unfold zr1 at h
  split at h
  · exact ⟨_, _, rfl, h⟩
  · exact h.elim
theorem zri_s {st : List Value} {k : Nat → Int32 → List Value → Prop} (h : zri st k) : ∃ x y r, st = .int y :: .ref x :: r ∧ k x y r := by
  unfold zri at h
  split at h
  · exact ⟨_, _, _, rfl, h⟩
  · exact h.elim
theorem zrii_s {st : List Value} {k : Nat → Int32 → Int32 → List Value → Prop} (h : zrii st k) : ∃ o j x r, st = .int x :: .int j :: .ref o :: r ∧ k o j x r := by
  unfold zrii at h
  split at h
  · exact ⟨_, _, _, _, rfl, h⟩
  · exact h.elim
theorem zril_s {st : List Value} {k : Nat → Int32 → Int64 → List Value → Prop} (h : zril st k) : ∃ o j x r, st = .long x :: .int j :: .ref o :: r ∧ k o j x r := by
  unfold zril at h
  split at h
  · exact ⟨_, _, _, _, rfl, h⟩
  · exact h.elim
theorem zrir_s {st : List Value} {k : Nat → Int32 → Nat → List Value → Prop} (h : zrir st k) : ∃ o j x r, st = .ref x :: .int j :: .ref o :: r ∧ k o j x r := by
  unfold zrir at h
  split at h
  · exact ⟨_, _, _, _, rfl, h⟩
  · exact h.elim
theorem zrn1_s {st : List Value} {k : Nat → List Value → Prop} {k2 : List Value → Prop} (h : zrn1 st k k2) : (∃ x r, st = .ref x :: r ∧ k x r) ∨ ∃ r, st = .null :: r ∧ k2 r := by
  unfold zrn1 at h
  split at h
  · exact Or.inl ⟨_, _, rfl, h⟩
  · exact Or.inr ⟨_, rfl, h⟩
  · exact h.elim
theorem zgi_s {q : Option Value} {k : Int32 → Prop} (h : zgi q k) : ∃ x, q = some (.int x) ∧ k x := by
  unfold zgi at h
  split at h
  · exact ⟨_, rfl, h⟩
  · exact h.elim
theorem zgL_s {q : Option Value} {k : Int64 → Prop} (h : zgL q k) : ∃ x, q = some (.long x) ∧ k x := by
  unfold zgL at h
  split at h
  · exact ⟨_, rfl, h⟩
  · exact h.elim
theorem zga_s {q : Option Value} {k : Value → Prop} (h : zga q k) : (∃ x, q = some (.ref x) ∧ k (.ref x)) ∨ (q = some .null ∧ k .null) := by
  unfold zga at h
  split at h
  · exact Or.inl ⟨_, rfl, h⟩
  · exact Or.inr ⟨rfl, h⟩
  · exact h.elim
theorem zob_s {q : (FieldType × Nat) ⊕ Nat} {k : Nat → Prop} (h : zob q k) : ∃ c, q = .inr c ∧ k c := by
  unfold zob at h
  split at h
  · exact ⟨_, rfl, h⟩
  · exact h.elim
theorem zai_s {q : (FieldType × Nat) ⊕ Nat} {k : Nat → Prop} (h : zai q k) : ∃ c, q = .inl (.int, c) ∧ k c := by
  unfold zai at h
  split at h
  · exact ⟨_, rfl, h⟩
  · exact h.elim
theorem zal_s {q : (FieldType × Nat) ⊕ Nat} {k : Nat → Prop} (h : zal q k) : ∃ c, q = .inl (.long, c) ∧ k c := by
  unfold zal at h
  split at h
  · exact ⟨_, rfl, h⟩
  · exact h.elim
theorem zac_s {q : (FieldType × Nat) ⊕ Nat} {k : Nat → Prop} (h : zac q k) : ∃ c, q = .inl (.char, c) ∧ k c := by
  unfold zac at h
  split at h
  · exact ⟨_, rfl, h⟩
  · exact h.elim
theorem zab_s {q : (FieldType × Nat) ⊕ Nat} {k k2 : Nat → Prop} (h : zab q k k2) : (∃ c, q = .inl (.byte, c) ∧ k c) ∨ ∃ c, q = .inl (.boolean, c) ∧ k2 c := by
  unfold zab at h
  split at h
  · exact Or.inl ⟨_, rfl, h⟩
  · exact Or.inr ⟨_, rfl, h⟩
  · exact h.elim
theorem zao_s {q : (FieldType × Nat) ⊕ Nat} {k : String → Nat → Prop} (h : zao q k) : ∃ C c, q = .inl (.object C, c) ∧ k C c := by
  unfold zao at h
  split at h
  · exact ⟨_, _, rfl, h⟩
  · exact h.elim
theorem zan_s {q : (FieldType × Nat) ⊕ Nat} {k : FieldType → Nat → Prop} (h : zan q k) : ∃ t c, q = .inl (t, c) ∧ k t c := by
  unfold zan at h
  split at h
  · exact ⟨_, _, rfl, h⟩
  · exact h.elim
theorem zrf_map (b : Nat) (ts : Nat → Nat) (q : Option Nat) : va_rf (q.map (zad b ts)) = zrn b ts (zrv q) := by cases q <;> rfl
theorem zgf_s {kind : Nat} {I : zI} {L : zL} {R : zR} {o k : Nat} {f : Value → Prop} (b : Nat) (ts : Nat → Nat) (h : zgf kind I L R o k f) : ∃ w, f w ∧ zfv b ts kind (I o k) (L o k) (R o k) = zrn b ts w := by
  unfold zgf at h
  split at h
  · exact ⟨_, h, rfl⟩
  · exact ⟨_, h, rfl⟩
  · rename_i h0 h1
    refine ⟨zrv (R o k), ?_, ?_⟩
    · revert h
      cases R o k <;> exact id
    · rw [← zrf_map]
      unfold zfv
      split
      · exact absurd rfl h0
      · exact absurd rfl h1
      · rfl
theorem zfk0 {c k : Nat} (h : zfk c k = 0) : zcy c k ≠ .long ∧ (∀ C, zcy c k ≠ .object C) ∧ ∀ t, zcy c k ≠ .array t := by
  unfold zfk at h
  refine ⟨fun e => ?_, fun C e => ?_, fun t e => ?_⟩ <;> (rw [e] at h; cases h)
theorem zfk1 {c k : Nat} (h : zfk c k = 1) : zcy c k = .long := by
  unfold zfk at h
  split at h
  · assumption
  · cases h
  · cases h
  · cases h
theorem zfk2 {c k : Nat} (h : zfk c k = 2) : (∃ C, zcy c k = .object C) ∨ ∃ t, zcy c k = .array t := by
  unfold zfk at h
  split at h
  · cases h
  · exact Or.inl ⟨_, by assumption⟩
  · exact Or.inr ⟨_, by assumption⟩
  · cases h
theorem zup_self {α : Type} {f : Nat → Nat → α} {o k : Nat} {v : α} : zup f o k v o k = v := by simp [zup]
theorem zup_k {α : Type} {f : Nat → Nat → α} {o k k' : Nat} {v : α} (h : k' ≠ k) : zup f o k v o k' = f o k' := by simp [zup, h]
theorem zpf_s {c : Nat} {st : List Value} {I : zI} {L : zL} {R : zR} {k : Nat} {f : Nat → List Value → zI → zL → zR → Prop} (b : Nat) (ts : Nat → Nat) (h : zpf (zcy c k) (zfk c k) st I L R k f) :
    ∃ (v : Value) (o : Nat) (r : List Value) (I' : zI) (L' : zL) (R' : zR), st = v :: .ref o :: r ∧ f o r I' L' R' ∧ zfv b ts (zfk c k) (I' o k) (L' o k) (R' o k) = zrn b ts v ∧
      (∀ k', k' ≠ k → I' o k' = I o k' ∧ L' o k' = L o k' ∧ R' o k' = R o k') ∧ (∀ o', o' ≠ o → I' o' = I o' ∧ L' o' = L o' ∧ R' o' = R o') ∧ narrow (zcy c k) (zrn b ts v) = zrn b ts v ∧ fits (zcy c k) (zrn b ts v) = true := by
  generalize hk : zfk c k = kind at h
  unfold zpf at h
  split at h
  · rename_i x o r
    have h' : (narrow (zcy c k) (.int x) = .int x ∧ fits (zcy c k) (.int x) = true) ∧ f o r (zup I o k x) L R := by
      split at h
      · rename_i e
        rw [e]
        exact ⟨⟨rfl, rfl⟩, h⟩
      · exact h
    refine ⟨.int x, o, r, _, _, _, rfl, h'.2, ?_, fun k' hk' => ⟨zup_k hk', rfl, rfl⟩, fun o' ho' => ⟨zup_ne ho', rfl, rfl⟩, h'.1.1, h'.1.2⟩
    show Value.int (zup I o k x o k) = _
    rw [zup_self]
    rfl
  · rename_i x o r
    have e := zfk1 hk
    refine ⟨.long x, o, r, _, _, _, rfl, h, ?_, fun k' hk' => ⟨rfl, zup_k hk', rfl⟩, fun o' ho' => ⟨rfl, zup_ne ho', rfl⟩, ?_, ?_⟩
    · show Value.long (zup L o k x o k) = _
      rw [zup_self]
      rfl
    · rw [e]; rfl
    · rw [e]; rfl
  · rename_i x o r
    refine ⟨.ref x, o, r, _, _, _, rfl, h, ?_, fun k' hk' => ⟨rfl, rfl, zup_k hk'⟩, fun o' ho' => ⟨rfl, rfl, zup_ne ho'⟩, ?_, ?_⟩
    · show va_rf ((zup R o k (some x) o k).map (zad b ts)) = _
      rw [zup_self]
      rfl
    · rcases zfk2 hk with ⟨C, e⟩ | ⟨t, e⟩ <;> (rw [e]; rfl)
    · rcases zfk2 hk with ⟨C, e⟩ | ⟨t, e⟩ <;> (rw [e]; rfl)
  · rename_i o r
    refine ⟨.null, o, r, _, _, _, rfl, h, ?_, fun k' hk' => ⟨rfl, rfl, zup_k hk'⟩, fun o' ho' => ⟨rfl, rfl, zup_ne ho'⟩, ?_, ?_⟩
    · show va_rf ((zup R o k none o k).map (zad b ts)) = _
      rw [zup_self]
      rfl
    · rcases zfk2 hk with ⟨C, e⟩ | ⟨t, e⟩ <;> (rw [e]; rfl)
    · rcases zfk2 hk with ⟨C, e⟩ | ⟨t, e⟩ <;> (rw [e]; rfl)
  · exact h.elim
theorem zfs_get {b : Nat} {ts : Nat → Nat} {c k : Nat} {I : zI} {L : zL} {R : zR} {o : Nat} (hk : k < zcf c) : (zfs b ts c I L R o)[k]? = some (zfv b ts (zfk c k) (I o k) (L o k) (R o k)) := by
  unfold zfs
  rw [List.getElem?_map, List.getElem?_range hk]
  rfl
theorem zfs_set {b : Nat} {ts : Nat → Nat} {c k : Nat} {I I' : zI} {L L' : zL} {R R' : zR} {o : Nat} {v : Value} (hk : k < zcf c) (hv : zfv b ts (zfk c k) (I' o k) (L' o k) (R' o k) = v) (he : ∀ k', k' ≠ k → I' o k' = I o k' ∧ L' o k' = L o k' ∧ R' o k' = R o k') : (zfs b ts c I L R o).set k v = zfs b ts c I' L' R' o := by
  apply List.ext_getElem?
  intro i
  by_cases hi : i = k
  · subst hi
    rw [List.getElem?_set_self (by simp [zfs]; exact hk), zfs_get hk, hv]
  · rw [List.getElem?_set_ne (Ne.symm hi)]
    by_cases hN : i < zcf c
    · rw [zfs_get hN, zfs_get hN]
      obtain ⟨e1, e2, e3⟩ := he i hi
      rw [e1, e2, e3]
    · rw [List.getElem?_eq_none (by simp [zfs]; omega), List.getElem?_eq_none (by simp [zfs]; omega)]
theorem zen_obj {dty : FieldType → ClassId} {b : Nat} {ts : Nat → Nat} {I : zI} {L : zL} {R : zR} {o c : Nat} (h : zk o = .inr c) : zen dty b ts I L R o = .inr (c, zfs b ts c I L R o) := by
  unfold zen
  rw [h]
theorem zen_arr {dty : FieldType → ClassId} {b : Nat} {ts : Nat → Nat} {I : zI} {L : zL} {R : zR} {o n : Nat} {ty : FieldType} (h : zk o = .inl (ty, n)) : zen dty b ts I L R o = .inl (dty ty, n, zar b ts ty I L R o) := by
  unfold zen
  rw [h]
theorem upd_zup (I : zI) (o k : Nat) (x : Int32) : upd (I o) k x = zup I o k x o := by
  funext j
  simp [upd, zup]
theorem updL_zup (L : zL) (o k : Nat) (x : Int64) : vp_updL (L o) k x = zup L o k x o := by
  funext j
  simp [vp_updL, zup]
theorem zsp_s : ∀ (n : Nat) (st acc : List Value) (k : List Value → List Value → Prop), zsp n st acc k → ∃ as r, st = as ++ r ∧ as.length = n ∧ k (as.reverse ++ acc) r
  | 0, st, acc, k, h => ⟨[], st, rfl, rfl, h⟩
  | n + 1, [], acc, k, h => h.elim
  | n + 1, v :: st, acc, k, h => by
    obtain ⟨as, r, e1, e2, e3⟩ := zsp_s n st (v :: acc) k h
    refine ⟨v :: as, r, by rw [e1]; rfl, by simp [e2], ?_⟩
    rw [List.reverse_cons, List.append_assoc]
    exact e3
theorem zlw_cat (b : Nat) (ts : Nat → Nat) : ∀ r : List Value, ((r.map (zrn b ts)).map fun v => v.category).sum ≤ zlw r
  | [] => Nat.le_refl _
  | v :: t => by
    have h := zlw_cat b ts t
    rw [List.map_cons, List.map_cons, List.sum_cons]
    generalize ((t.map (zrn b ts)).map fun v => v.category).sum = z at h ⊢
    cases v
    all_goals (show _ ≤ zlw t + _; have hc : ∀ a c : Nat, a ≤ c → a + z ≤ zlw t + c := (fun a c hac => by omega); exact hc _ _ (by first | exact Nat.le_refl _ | exact (by decide)))
theorem zln0 {r : List Value} (h : Nat.beq (zln r) 0 = true) : r = [] := by
  cases r with
  | nil => rfl
  | cons v t => cases h

-- ===== rows of stores =====
section ZLV
variable {p : Program} {l : Launch} {e : Env} {R : Room} {s : State} {m : MethodId} {args : Array Value} {below : List Frame} {meth : Method} {c : Code} {H : Heap} {locs : List Loc} {cells slots : Nat} {Q : State → Prop}
variable {cc : ByteArray} {pc : Nat} {ls ls' : Array Slot} {rest : List Value}
theorem z_istore_n (hexec : p.tables.exec = Jvm.exec) (hb : c.code = cc) {k : Fin 4} {i : Nat} {x : Int32} (hdg : decode cc pc = .ok (.istore_n k, 1)) (hi : (k : Nat) = i) (e' : storeLocals ls i (.int x) = some ls')
    (kk : W p l e R s m args below meth c H locs cells slots Q (F0 m (pc + 1) ls' rest)) : W p l e R s m args below meth c H locs cells slots Q (F0 m pc ls (.int x :: rest)) := by
  subst hi
  intro T hT X
  obtain ⟨t, a, b⟩ := kk T hT X
  refine ⟨t, ?_, b⟩
  jvm_step X.here [X.here.top, ↓top_set X.here.top, hexec, hb, hdg, e', Value.isRef]
  exact a
theorem z_istore (hexec : p.tables.exec = Jvm.exec) (hb : c.code = cc) {i : Nat} {x : Int32} (hdg : decode cc pc = .ok (.istore i, 2)) (e' : storeLocals ls i (.int x) = some ls')
    (kk : W p l e R s m args below meth c H locs cells slots Q (F0 m (pc + 2) ls' rest)) : W p l e R s m args below meth c H locs cells slots Q (F0 m pc ls (.int x :: rest)) := by
  intro T hT X
  obtain ⟨t, a, b⟩ := kk T hT X
  refine ⟨t, ?_, b⟩
  jvm_step X.here [X.here.top, ↓top_set X.here.top, hexec, hb, hdg, e', Value.isRef]
  exact a
theorem z_lstore_n (hexec : p.tables.exec = Jvm.exec) (hb : c.code = cc) {k : Fin 4} {i : Nat} {x : Int64} (hdg : decode cc pc = .ok (.lstore_n k, 1)) (hi : (k : Nat) = i) (e' : storeLocals ls i (.long x) = some ls')
    (kk : W p l e R s m args below meth c H locs cells slots Q (F0 m (pc + 1) ls' rest)) : W p l e R s m args below meth c H locs cells slots Q (F0 m pc ls (.long x :: rest)) := by
  subst hi
  intro T hT X
  obtain ⟨t, a, b⟩ := kk T hT X
  refine ⟨t, ?_, b⟩
  jvm_step X.here [X.here.top, ↓top_set X.here.top, hexec, hb, hdg, e', Value.isRef]
  exact a
theorem z_lstore (hexec : p.tables.exec = Jvm.exec) (hb : c.code = cc) {i : Nat} {x : Int64} (hdg : decode cc pc = .ok (.lstore i, 2)) (e' : storeLocals ls i (.long x) = some ls')
    (kk : W p l e R s m args below meth c H locs cells slots Q (F0 m (pc + 2) ls' rest)) : W p l e R s m args below meth c H locs cells slots Q (F0 m pc ls (.long x :: rest)) := by
  intro T hT X
  obtain ⟨t, a, b⟩ := kk T hT X
  refine ⟨t, ?_, b⟩
  jvm_step X.here [X.here.top, ↓top_set X.here.top, hexec, hb, hdg, e', Value.isRef]
  exact a
theorem z_astore_n (hexec : p.tables.exec = Jvm.exec) (hb : c.code = cc) {k : Fin 4} {i : Nat} {x : Nat} (hdg : decode cc pc = .ok (.astore_n k, 1)) (hi : (k : Nat) = i) (e' : storeLocals ls i (.ref x) = some ls')
    (kk : W p l e R s m args below meth c H locs cells slots Q (F0 m (pc + 1) ls' rest)) : W p l e R s m args below meth c H locs cells slots Q (F0 m pc ls (.ref x :: rest)) := by
  subst hi
  intro T hT X
  obtain ⟨t, a, b⟩ := kk T hT X
  refine ⟨t, ?_, b⟩
  jvm_step X.here [X.here.top, ↓top_set X.here.top, hexec, hb, hdg, e', Value.isRef]
  exact a
theorem z_astore (hexec : p.tables.exec = Jvm.exec) (hb : c.code = cc) {i : Nat} {x : Nat} (hdg : decode cc pc = .ok (.astore i, 2)) (e' : storeLocals ls i (.ref x) = some ls')
    (kk : W p l e R s m args below meth c H locs cells slots Q (F0 m (pc + 2) ls' rest)) : W p l e R s m args below meth c H locs cells slots Q (F0 m pc ls (.ref x :: rest)) := by
  intro T hT X
  obtain ⟨t, a, b⟩ := kk T hT X
  refine ⟨t, ?_, b⟩
  jvm_step X.here [X.here.top, ↓top_set X.here.top, hexec, hb, hdg, e', Value.isRef]
  exact a
theorem z_astore_nN (hexec : p.tables.exec = Jvm.exec) (hb : c.code = cc) {k : Fin 4} {i : Nat} {x : Unit} (hdg : decode cc pc = .ok (.astore_n k, 1)) (hi : (k : Nat) = i) (e' : storeLocals ls i (.null) = some ls')
    (kk : W p l e R s m args below meth c H locs cells slots Q (F0 m (pc + 1) ls' rest)) : W p l e R s m args below meth c H locs cells slots Q (F0 m pc ls (.null :: rest)) := by
  subst hi
  intro T hT X
  obtain ⟨t, a, b⟩ := kk T hT X
  refine ⟨t, ?_, b⟩
  jvm_step X.here [X.here.top, ↓top_set X.here.top, hexec, hb, hdg, e', Value.isRef]
  exact a
theorem z_astoreN (hexec : p.tables.exec = Jvm.exec) (hb : c.code = cc) {i : Nat} {x : Unit} (hdg : decode cc pc = .ok (.astore i, 2)) (e' : storeLocals ls i (.null) = some ls')
    (kk : W p l e R s m args below meth c H locs cells slots Q (F0 m (pc + 2) ls' rest)) : W p l e R s m args below meth c H locs cells slots Q (F0 m pc ls (.null :: rest)) := by
  intro T hT X
  obtain ⟨t, a, b⟩ := kk T hT X
  refine ⟨t, ?_, b⟩
  jvm_step X.here [X.here.top, ↓top_set X.here.top, hexec, hb, hdg, e', Value.isRef]
  exact a
theorem z_iinc (hexec : p.tables.exec = Jvm.exec) (hb : c.code = cc) {i : Nat} {n : Int} {x : Int32} (hdg : decode cc pc = .ok (.iinc i n, 3)) (hg : ls[i]? = some (.val (.int x))) (e' : storeLocals ls i (.int (x + Int32.ofInt n)) = some ls')
    (kk : W p l e R s m args below meth c H locs cells slots Q (F0 m (pc + 3) ls' rest)) : W p l e R s m args below meth c H locs cells slots Q (F0 m pc ls rest) := by
  intro T hT X
  obtain ⟨t, a, b⟩ := kk T hT X
  refine ⟨t, ?_, b⟩
  jvm_step X.here [X.here.top, ↓top_set X.here.top, hexec, hb, hdg, hg, e']
  exact a
end ZLV
