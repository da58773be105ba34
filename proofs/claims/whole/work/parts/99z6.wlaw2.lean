-- ===== the law's cases: a call of the class, the same call of the reference, their answers compared =====
def lDec : Nat → List (Instr × Nat) → Bool
  | _, [] => true
  | pc, (i, n) :: t => decide (decode code pc = .ok (i, n)) && lDec (pc + n) t
def lArgs : Nat → Nat → List (Instr × Nat)
  | _, 0 => []
  | j, a + 1 => (.aload_n 0, 1) :: (.iload 4, 2) :: (.iconst (j : Int), 1) :: (.iadd, 1) :: (.iaload, 1) :: lArgs (j + 1) a
def lVals (xs : Nat → Int32) (i : Nat) : Nat → Nat → List Value
  | _, 0 => []
  | j, a + 1 => .int (xs (i + j)) :: lVals xs i (j + 1) a
theorem lVals_map {b : Nat} {ts : Nat → Nat} {xs : Nat → Int32} {i : Nat} : ∀ j a, (lVals xs i j a).map (zrn b ts) = lVals xs i j a
  | _, 0 => rfl
  | j, a + 1 => by
    show Value.int (xs (i + j)) :: (lVals xs i (j + 1) a).map (zrn b ts) = _
    rw [lVals_map (j + 1) a]
    rfl
theorem lVals_len {xs : Nat → Int32} {i : Nat} : ∀ j a, (lVals xs i j a).length = a
  | _, 0 => rfl
  | j, a + 1 => by
    show (lVals xs i (j + 1) a).length + 1 = a + 1
    rw [lVals_len (j + 1) a]
section
variable {p : Program} {l : Launch} {e : Env} {s : State} {m : MethodId} {below : List Frame} {meth : Method} {c : Code} {bA Ls : Nat} {xs : Nat → Int32} {D : va_G} {dty : FieldType → ClassId} {ts : Nat → Nat} {H : Heap} {locs : List Loc} {cells slots : Nat} {Q : State → Prop} {pc : Nat} {ls : Array Slot} {rest : List Value} {I : zI} {L : zL} {R : zR} {v : Int64} {q0 : zq} {t : Nat}
theorem law_args {i : Nat} (C0 : lw_At p s m meth c bA Ls xs) (hS : va_S (lA s) s.heap H locs) (h0 : ls[0]? = some (.val (.ref bA))) (h4 : ls[4]? = some (.val (.int (nI i)))) (hi : i + 5 ≤ Ls) (hL : Ls ≤ 2560) : ∀ (a j pc : Nat) (rest : List Value), lDec pc (lArgs j a) = true → j + a ≤ 5 → W p l e room_1 s m #[.ref bA] below meth c H locs cells slots Q (F0 m (pc + 6 * a) ls ((lVals xs i j a).reverse ++ rest)) → W p l e room_1 s m #[.ref bA] below meth c H locs cells slots Q (F0 m pc ls rest) := by
  intro a
  induction a with
  | zero =>
    intro j pc rest _ _ go
    exact go
  | succ a ih =>
    intro j pc rest hd hj go
    obtain ⟨d0, hd⟩ := Bool.and_eq_true_iff.mp hd
    obtain ⟨d1, hd⟩ := Bool.and_eq_true_iff.mp hd
    obtain ⟨d2, hd⟩ := Bool.and_eq_true_iff.mp hd
    obtain ⟨d3, hd⟩ := Bool.and_eq_true_iff.mp hd
    obtain ⟨d4, hd⟩ := Bool.and_eq_true_iff.mp hd
    refine law_arg (kk := (j : Int)) (j := j) C0 hS h0 h4 (by omega) hL (of_decide_eq_true d0) (of_decide_eq_true d1) (of_decide_eq_true d2) rfl (of_decide_eq_true d3) (of_decide_eq_true d4) ?_
    refine ih (j + 1) (pc + 6) (.int (xs (i + j)) :: rest) hd (by omega) ?_
    rw [show pc + 6 + 6 * a = pc + 6 * (a + 1) by omega]
    have e : (lVals xs i (j + 1) a).reverse ++ .int (xs (i + j)) :: rest = (lVals xs i j (a + 1)).reverse ++ rest := by
      show _ = (Value.int (xs (i + j)) :: lVals xs i (j + 1) a).reverse ++ rest
      rw [List.reverse_cons, List.append_assoc]
      rfl
    rw [e]
    exact go
/-- where the law goes on -/
def lNext (p : Program) (l : Launch) (e : Env) (s : State) (m : MethodId) (below : List Frame) (meth : Method) (c : Code) (bA : Nat) (D : va_G) (dty : FieldType → ClassId) (ts : Nat → Nat) (cells slots : Nat) (Q : State → Prop) (ls : Array Slot) (t : Nat) (v : Int64) : Prop := ∀ (I' : zI) (L' : zL) (q' : zq) (H' : Heap) (locs' : List Loc), wE t I' L' → va_P D zCl (zws dty s.heap.size ts zNN I' L' (zR1 q')) H' → va_P D zCl (lOut dty s.heap.size v) H' → va_S (lA s) s.heap H' locs' → W p l e room_1 s m #[.ref bA] below meth c H' locs' cells slots Q (F0 m 1332 ls [])
theorem law_case {n a i y y0 i1 i2 : Nat} {off : Int} (C0 : lw_At p s m meth c bA Ls xs) (hT : zTa D dty s.heap.size ts true 0 s) (hM : zC (l, D, dty, s.heap.size, ts, false) n y (.ref 40 :: lVals xs i 1 a) I L (zR1 q0) (wPo (l, D, dty, s.heap.size, ts, false) n y0 (.ref 0 :: lVals xs i 1 a) t))
    (hP : va_P D zCl (zws dty s.heap.size ts zNN I L (zR1 q0)) H) (hO : va_P D zCl (lOut dty s.heap.size v) H) (hS : va_S (lA s) s.heap H locs)
    (hn : n ≤ 1000) (hls : ls.size = 8) (h0 : ls[0]? = some (.val (.ref bA))) (h1 : ls[1]? = some (.val (.ref (zad s.heap.size ts 40)))) (h2 : ls[2]? = some (.val (.ref (zad s.heap.size ts 0)))) (h4 : ls[4]? = some (.val (.int (nI i)))) (hi : i + 5 ≤ Ls) (hL : Ls ≤ 2560) (hcl : cells ≤ room_1.cells) (hsl : slots ≤ room_1.slots)
    (hcls : zcn 12 = (zna y).cls) (hxe : Nat.beq (zxe y) 0 = false) (hst : zsta y = false) (hnar : a = znar y) (hlk : Cond.methodLink R_law i1 (zna y) ∈ zBase)
    (hcls0 : zcn 0 = (zna y0).cls) (hxe0 : Nat.beq (zxe y0) 0 = false) (hst0 : zsta y0 = false) (hnar0 : a = znar y0) (hlk0 : Cond.methodLink R_law i2 (zna y0) ∈ zBase)
    (ha : a ≤ 4) (d0 : decode code pc = .ok (.aload_n 1, 1)) (dA : lDec (pc + 1) (lArgs 1 a) = true) (d1 : decode code (pc + 1 + 6 * a) = .ok (.invokevirtual i1, 3)) (d2 : decode code (pc + 1 + 6 * a + 3) = .ok (.aload_n 2, 1)) (dB : lDec (pc + 1 + 6 * a + 4) (lArgs 1 a) = true) (d3 : decode code (pc + 1 + 6 * a + 4 + 6 * a) = .ok (.invokevirtual i2, 3)) (d4 : decode code (pc + 1 + 6 * a + 4 + 6 * a + 3) = .ok (.if_icmp .eq off, 3)) (ht : ((pc + 1 + 6 * a + 4 + 6 * a + 3 : Nat) : Int) + off = ((1332 : Nat) : Int))
    (go : lNext p l e s m below meth c bA D dty ts cells slots Q ls t v) : W p l e room_1 s m #[.ref bA] below meth c H locs cells slots Q (F0 m pc ls []) := by
  obtain ⟨hx, hb, hr, hml, hown, hts, hX, hbl, hlocks, hgv⟩ := id C0
  refine lv_aload_n hx hb d0 rfl h1 ?_
  refine law_args C0 hS h0 h4 hi hL a 1 (pc + 1) _ dA (by omega) ?_
  rw [← lVals_map (b := s.heap.size) (ts := ts) 1 a]
  refine law_call (rest := []) C0 hT hM hP hO hS (cc := 12) (index := i1) rfl rfl hcls hxe hst (by rw [lVals_len]; exact hnar) hlk hn (Nat.zero_le _) hls d1 hcl hsl (fun q I1 L1 R1 H1 locs1 hp hP1 hO1 hS1 => ?_)
  · obtain ⟨⟨x, rfl⟩, q1, rfl, hM0⟩ := hp
    show W p l e room_1 s m #[.ref bA] below meth c H1 locs1 cells slots Q (F0 m (pc + 1 + 6 * a + 3) ls [.int x])
    refine lv_aload_n hx hb d2 rfl h2 ?_
    refine law_args C0 hS1 h0 h4 hi hL a 1 (pc + 1 + 6 * a + 4) _ dB (by omega) ?_
    rw [← lVals_map (b := s.heap.size) (ts := ts) 1 a]
    refine law_call (rest := [.int x]) C0 hT hM0 hP1 hO1 hS1 (cc := 0) (index := i2) rfl rfl hcls0 hxe0 hst0 (by rw [lVals_len]; exact hnar0) hlk0 hn (by show 1 ≤ 8; decide) hls d3 hcl hsl (fun q I2 L2 R2 H2 locs2 hp hP2 hO2 hS2 => ?_)
    · obtain ⟨rfl, ⟨q2, rfl⟩, hE⟩ := hp
      show W p l e room_1 s m #[.ref bA] below meth c H2 locs2 cells slots Q (F0 m (pc + 1 + 6 * a + 4 + 6 * a + 3) ls [.int x, .int x])
      exact lv_icmp_eq (tgt := 1332) hx hb d4 ht (fun _ => go I2 L2 q2 H2 locs2 hE hP2 hO2 hS2) (fun z => absurd rfl z)
end
