-- ===== the law's frame: its world, its calls =====
theorem zcallL {p : Program} {l : Launch} {e : Env} {R : Room} {s : State} {m : MethodId} {args : Array Value} {below : List Frame} {meth : Method} {c : Code} {H : Heap} {locs : List Loc} {cells slots mc ms : Nat} {Q : State → Prop} {D : va_G} {dty : FieldType → ClassId} {b : Nat} {ts : Nat → Nat} {sz N1 N2 : Nat} {post : zPo} {pc : Nat} {ls : Array Slot} {st0 rest : List Value} {a : Array Value} {A0 : Nat → Prop} {H0 : Heap}
    (hr : va_Run p l e R s m args below meth c H locs cells slots mc ms (F0 m pc ls st0) rest (zQc D dty b ts sz N1 N2 post a) (zA b N1 sz)) (hS : va_S A0 H0 H locs) (hA : ∀ q, zA b N1 sz q → A0 q)
    (kk : ∀ (q : Option Value) (I : zI) (L : zL) (R' : zR) (H1 : Heap) (locs1 : List Loc), post q I L R' → va_P D zCl (zws dty b ts N2 I L R') H1 → (∀ q, q < H.size → ¬ zA b N1 sz q → H1[q]? = H[q]?) → va_S A0 H0 H1 locs1 → W p l e R s m args below meth c H1 locs1 (cells + mc) (slots + ms) Q (F0 m (pc + 3) ls ((q.map (zrn b ts)).toList ++ rest))) : W p l e R s m args below meth c H locs cells slots Q (F0 m pc ls st0) := by
  intro T hT X
  obtain ⟨v, st₀, t, T', L, h0, X', hL, e1, e2, ⟨⟨q, I, L', R', hv, hp, hP⟩, hz, hk⟩, st⟩ := hr T hT X
  cases hv
  rw [h0] at hz hk
  obtain ⟨t2, a1, b1⟩ := kk q I L' R' T'.heap (locs ++ L) hp (by rw [e1]; exact hP) (fun q h1 h2 => by rw [e1]; exact hk q h1 h2)
    ⟨Nat.le_trans hS.1 (by rw [e1]; exact hz), fun q h1 h2 => by rw [e1, hk q (Nat.lt_of_lt_of_le h1 hS.1) (fun z => h2 (hA q z))]; exact hS.2.1 q h1 h2, fun q hq => by
      rcases List.mem_append.mp hq with h | h
      · exact hS.2.2 q h
      · exact hA _ (hL q h)⟩ T' rfl X'
  exact ⟨t2, st t2 a1, b1⟩
/-- what the law may write -/
def lA (s : State) : Nat → Prop := zA s.heap.size 0 s.heap.size
theorem lA_of {s : State} {q : Nat} (h : s.heap.size ≤ q) : lA s q := Or.inr h
theorem lA_ge {s : State} {q : Nat} (h : lA s q) : s.heap.size ≤ q := by
  rcases h with h | h
  · exact h.1
  · exact h
/-- the law's own row -/
def lOut (dty : FieldType → ClassId) (b : Nat) (v : Int64) : va_W := [(b + 171, .inl (dty .long, 1, .inr (.inl (fun _ => v))))]
section
variable {p : Program} {l : Launch} {e : Env} {s : State} {m : MethodId} {below : List Frame} {meth : Method} {c : Code} {bA Ls : Nat} {xs : Nat → Int32} {D : va_G} {dty : FieldType → ClassId} {ts : Nat → Nat} {H : Heap} {locs : List Loc} {cells slots : Nat} {Q : State → Prop} {pc : Nat} {ls : Array Slot} {rest : List Value} {I : zI} {L : zL} {R : zR} {v : Int64}
theorem law_base (C0 : lw_At p s m meth c bA Ls xs) : ∀ w ∈ zBase, w.before #[Value.ref bA] s = true := fun w h => lw_zTbl C0.2.2.2.2.2.1 w (List.mem_filter.mp h).1
theorem law_good {y : Nat} (hy : y < znm) : GoodIn zBase (zWs y) := by
  intro w hw
  have hm : w ∈ zBase := by
    rcases List.mem_cons.mp hw with rfl | h
    · exact (zyf hy).1
    · exact h
  exact ⟨hm, zbase_good hm⟩
theorem law_size {N : Nat} {g : JFrame} (hP : va_P D zCl (zws dty s.heap.size ts N I L R) H) (hS : va_S (lA s) s.heap H locs) (k : H.size = s.heap.size + N → W p l e room_1 s m #[.ref bA] below meth c H locs N slots Q g) : W p l e room_1 s m #[.ref bA] below meth c H locs N slots Q g := fun T hT X => k (zsize (fl := true) (N0 := 0) X hT hP hS (fun _ => rfl) (Nat.le_refl _) (Nat.zero_le _) rfl) T hT X
theorem law_zTa {U : State} (h : zTa D dty s.heap.size ts true 0 s) (hS : va_S (lA s) s.heap H locs) (hz : s.heap.size + 171 ≤ H.size) (hU : U.heap = H) (hW : s.WarmedH U.vm) : zTa D dty s.heap.size ts false zNN U := by
  obtain ⟨h1, ⟨h2, h3, h4⟩, h5, h6⟩ := h
  refine ⟨va_K.moved hW.alike h1, ⟨zNest_warm hW h2, fun q hq => (h3 q hq).moved hW.alike, fun k hk => (h4 k hk).moved (N0 := 0) (sz := 0) hW.alike fun a ha hb => ?_⟩, fun q => (by cases q), ?_⟩
  · rw [hU]
    exact hS.2.1 a ha (fun z => hb (lA_ge z))
  · rw [hU]
    exact hz
theorem law_room {n y : Nat} (hy : y < znm) (hn : n ≤ 1000) : (zrm n zNN zNN).frames + 1 ≤ room_1.frames ∧ 8 + (zml y + 11) + (zrm n zNN zNN).locals ≤ room_1.locals := by
  have h := (zyf hy).2.2.2.2.2.1
  constructor
  · show n + 1 ≤ 2048
    omega
  · show 8 + (zml y + 11) + 64 * n ≤ 84000
    omega
/-- a call of the law's, all objects made -/
theorem law_call {n y cc o index : Nat} {as : List Value} {post : zPo} (C0 : lw_At p s m meth c bA Ls xs) (hT : zTa D dty s.heap.size ts true 0 s) (hM : zC (l, D, dty, s.heap.size, ts, false) n y (.ref o :: as) I L R post)
    (hP : va_P D zCl (zws dty s.heap.size ts zNN I L R) H) (hO : va_P D zCl (lOut dty s.heap.size v) H) (hS : va_S (lA s) s.heap H locs)
    (hzk : zk o = .inr cc) (hin : zin o zNN = true) (hcls : zcn cc = (zna y).cls) (hxe : Nat.beq (zxe y) 0 = false) (hst : zsta y = false) (hnar : as.length = znar y) (hlk : Cond.methodLink R_law index (zna y) ∈ zBase) (hn : n ≤ 1000)
    (hrest : (rest.map fun v => v.category).sum ≤ 8) (hls : ls.size = 8) (hdg : decode code pc = .ok (.invokevirtual index, 3)) (hcl : cells ≤ room_1.cells) (hsl : slots ≤ room_1.slots)
    (kk : ∀ (q : Option Value) (I' : zI) (L' : zL) (R' : zR) (H1 : Heap) (locs1 : List Loc), post q I' L' R' → va_P D zCl (zws dty s.heap.size ts zNN I' L' R') H1 → va_P D zCl (lOut dty s.heap.size v) H1 → va_S (lA s) s.heap H1 locs1 → W p l e room_1 s m #[.ref bA] below meth c H1 locs1 cells slots Q (F0 m (pc + 3) ls ((q.map (zrn s.heap.size ts)).toList ++ rest))) :
    W p l e room_1 s m #[.ref bA] below meth c H locs cells slots Q (F0 m pc ls ((as.map (zrn s.heap.size ts)).reverse ++ .ref (zad s.heap.size ts o) :: rest)) := by
  obtain ⟨hx, hb, hr, hml, hown, hts, hX, hbl, hlocks, hgv⟩ := id C0
  have hbase := law_base C0
  obtain ⟨g1, g2, hya, g4, hM⟩ := hM
  have hcc := zk_cls o cc (zin_lt hin) hzk
  have hg := zws_get (dty := dty) (b := s.heap.size) (ts := ts) (I := I) (L := L) (R := R) hin
  rw [zen_obj hzk] at hg
  have hrecv := va_recv hT.1 hP (zCl_get hcc) hg
  have hz : s.heap.size + 171 < H.size := (hO 0 _ rfl).lt
  refine zcallL (N2 := zNN) (va_runV (C := zcn cc) (b := zad s.heap.size ts o) (As := as.map (zrn s.heap.size ts)) (rest := rest) ⟨hx, hb, hml, hown, hbase⟩ (hM H.size) ⟨callB_of (znar y) hbase (law_good hya) rfl rfl rfl (hbase _ (zyf hya).2.1) (hbase _ hlk) ⟨(zyf2 hya).1.1, (zyf2 hya).1.2, (zyf2 hya).2⟩ (law_room hya hn), hbase _ ((zyf hya).2.2.2.1 hst), by rw [hcls]; exact hbase _ ((zyf hya).2.2.2.2.1 hxe)⟩ ⟨zblind zPre_blind, hrecv, fun U hU hW => ⟨rfl, ⟨by rw [hU], by rw [hU]; exact hP, law_zTa hT hS (by omega) hU hW⟩⟩⟩ rfl (by simp [hnar]) hls rfl (lv_room hrest) hdg ⟨by rw [Nat.sub_self, Nat.add_zero]; exact hcl, by rw [Nat.sub_self, Nat.add_zero]; exact hsl⟩) hS (fun q hq => ?_) fun q I' L' R' H1 locs1 hp hP1 hk1 hS1 => ?_
  · rcases hq with ⟨a1, a2⟩ | a1
    · exact lA_of a1
    · exact lA_of (by omega)
  · refine W.cs (cells' := cells) (slots' := slots) (by rw [Nat.sub_self, Nat.add_zero]) (by rw [Nat.sub_self, Nat.add_zero]) ?_
    refine kk q I' L' R' H1 locs1 hp hP1 ?_ hS1
    refine hO.kept fun k x hx => ?_
    have hk0 : k < 1 := (List.getElem?_eq_some_iff.mp hx).1
    rw [show k = 0 by omega] at hx
    cases hx
    refine hk1 _ hz fun z => ?_
    rcases z with ⟨a1, a2⟩ | a1
    · have a2 : s.heap.size + 171 < s.heap.size + zNN := a2
      exact absurd a2 (Nat.lt_irrefl _)
    · have a1 : H.size ≤ s.heap.size + 171 := a1
      omega
/-- an int of the script -/
theorem law_arg {i : Nat} {kk : Int} (C0 : lw_At p s m meth c bA Ls xs) (hS : va_S (lA s) s.heap H locs) (h0 : ls[0]? = some (.val (.ref bA))) (h4 : ls[4]? = some (.val (.int (nI i)))) {j : Nat} (hj : i + j < Ls) (hL : Ls ≤ 2560)
    (d0 : decode code pc = .ok (.aload_n 0, 1)) (d1 : decode code (pc + 1) = .ok (.iload 4, 2)) (d3 : decode code (pc + 3) = .ok (.iconst kk, 1)) (hkk : Int32.ofInt kk = nI j) (d4 : decode code (pc + 4) = .ok (.iadd, 1)) (d5 : decode code (pc + 5) = .ok (.iaload, 1))
    (go : W p l e room_1 s m #[.ref bA] below meth c H locs cells slots Q (F0 m (pc + 6) ls (.int (xs (i + j)) :: rest))) : W p l e room_1 s m #[.ref bA] below meth c H locs cells slots Q (F0 m pc ls rest) := by
  obtain ⟨hx, hb, hr, hml, hown, hts, hX, hbl, hlocks, hgv⟩ := id C0
  refine lv_aload_n hx hb d0 rfl h0 ?_
  refine lv_iload hx hb d1 h4 ?_
  refine lv_iconst hx hb d3 hkk ?_
  refine lv_iadd hx hb d4 ?_
  have hin : vp_in (nI i + nI j) Ls := by
    rw [nI_add]
    exact vp_in_nI hj (by omega)
  refine va_sld hx hb hX hbl (fun z => absurd (lA_ge z) (Nat.not_le.mpr hbl)) hS hin d5 ?_
  rw [nI_add, nI_clamp (by omega)]
  exact go
end
