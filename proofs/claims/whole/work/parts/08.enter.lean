-- ===== entering a method; fewer locals; a block of a method =====
theorem zenter {G : zG} {y n N0 E : Nat} {as : List Value} {I : zI} {L : zL} {R : zR} {post : zPo} {lv : zLv} (hy : y < znm) (hN : N0 ≤ E) (hE : E ≤ zNN) (hf : G.2.2.2.2.2 = false → E = N0) (hw : Nat.ble (zwd as) (zml y) = true) (hlv : zpd (zml y) (zpa as) = lv) (h : zP G y n N0 E post 0 lv [] N0 I L R) : zCon G (n + 1) y N0 E as I L R post := by
  obtain ⟨l, D, dty, b, ts, fl⟩ := G
  refine ⟨hN, hE, hy, hf, fun sz => ?_⟩
  refine Met.ofW (cc := zby y) (maxL := zml y) (ret := zrt y) (zyf hy).2.2.2.2.2.2 rfl ?_
  intro p e s m args below meth c s₁ B hml hv
  obtain ⟨rfl, hsz, hP, hT⟩ := hv
  subst hsz
  have hts := atoms_spec (ws := zWs y) B.pre
  have hown : s.vm.findClass (zna y).cls = some m.cls := findClass_of_methodNamed B.named
  have hin : ((zna y).name == "<init>") = true → meth.name = "<init>" := fun q => (name_of_methodNamed B.named B.method).1.trans (beq_iff_eq.mp q)
  rw [lg_entry_eq]
  refine W.cs (cells' := N0 - N0) (slots' := zsl N0 - zsl N0) (Nat.sub_self _).symm (Nat.sub_self _).symm ?_
  refine h p e s m _ below meth c ⟨B.exec, B.bytes, hml, hown, hts, B.returns, B.notSynchronized, hin, hT, hN, hE, hy, hf⟩ s.heap [] _ hP va_S.rf ?_ (Nat.le_refl _) hN
  rw [← hlv]
  exact zlh_entry as hw
/-- the contract of a method that makes nothing, all objects made -/
abbrev zC (G : zG) (n y : Nat) (as : List Value) (I : zI) (L : zL) (R : zR) (post : zPo) : Prop := zCon G n y zNN zNN as I L R post
/-- a place of such a method -/
abbrev zQ (G : zG) (y n : Nat) (post : zPo) (pc : Nat) (lv : zLv) (st : List Value) (I : zI) (L : zL) (R : zR) : Prop := zP G y n zNN zNN post pc lv st zNN I L R
theorem zin0 {G : zG} {y n : Nat} {as : List Value} {I : zI} {L : zL} {R : zR} {post : zPo} {lv : zLv} (hy : Nat.blt y znm = true) (hw : Nat.ble (zwd as) (zml y) = true) (hlv : zpd (zml y) (zpa as) = lv) (h : zQ G y n post 0 lv [] I L R) : zC G (n + 1) y as I L R post := zenter (Nat.le_of_ble_eq_true hy) (Nat.le_refl _) (Nat.le_refl _) (fun _ => rfl) hw hlv h
def zle : zLv → zLv → Prop
  | [], _ => True
  | none :: t, [] => zle t []
  | none :: t, _ :: t' => zle t t'
  | some v :: t, some w :: t' => v = w ∧ zle t t'
  | some _ :: _, none :: _ => False
  | some _ :: _, [] => False
theorem zle_gl : ∀ (l l' : zLv) (i : Nat) (v : Value), zle l l' → zgl l i = some v → zgl l' i = some v
  | [], _, _, _, _, h => by cases h
  | none :: t, [], 0, _, _, h => by cases h
  | none :: t, [], i + 1, v, hl, h => by
    have q := zle_gl t [] i v hl h
    cases q
  | none :: t, _ :: t', 0, _, _, h => by cases h
  | none :: t, _ :: t', i + 1, v, hl, h => zle_gl t t' i v hl h
  | some w :: t, some w' :: t', 0, v, hl, h => by
    have h : some w = some v := h
    rw [← h, hl.1]
    rfl
  | some w :: t, some w' :: t', i + 1, v, hl, h => zle_gl t t' i v hl.2 h
  | some _ :: _, none :: _, _, _, hl, _ => hl.elim
  | some _ :: _, [], _, _, hl, _ => hl.elim
theorem zP_lv {G : zG} {y n N0 E : Nat} {post : zPo} {pc : Nat} {lv lv' : zLv} {st : List Value} {N : Nat} {I : zI} {L : zL} {R : zR} (hl : zle lv' lv) (h : zP G y n N0 E post pc lv' st N I L R) : zP G y n N0 E post pc lv st N I L R := by
  obtain ⟨l, D, dty, b, ts, fl⟩ := G
  intro p e s m args below meth c X H locs ls hP hS hls hN0 hNE
  exact h p e s m args below meth c X H locs ls hP hS ⟨hls.1, hls.2.1, fun i v hv => hls.2.2 i v (zle_gl _ _ i v hl hv)⟩ hN0 hNE
/-- posts may be weakened -/
theorem zCon_mono {G : zG} {n y N0 E : Nat} {as : List Value} {I : zI} {L : zL} {R : zR} {post post' : zPo} (hp : ∀ q I L R, post q I L R → post' q I L R) (h : zCon G n y N0 E as I L R post) : zCon G n y N0 E as I L R post' := by
  obtain ⟨l, D, dty, b, ts, fl⟩ := G
  obtain ⟨h1, h2, h3, h4, h5⟩ := h
  refine ⟨h1, h2, h3, h4, fun sz => ?_⟩
  intro p e ha hc hk s m args below hf hfit hPc hK
  obtain ⟨t, o, q1, q2, q3, ⟨⟨q, I', L', R', e1, e2, e3⟩, e4⟩, e5⟩ := h5 sz p e ha hc hk s m args below hf hfit hPc hK
  exact ⟨t, o, q1, q2, q3, ⟨⟨q, I', L', R', e1, hp _ _ _ _ e2, e3⟩, e4⟩, e5⟩
theorem zokm_get {y : Nat} {bs : List (Nat × List zIt)} (h : zokm y bs = true) (i pc : Nat) (is : List zIt) (hi : zN bs i = some (pc, is)) : zok (zna y).cls (zby y) (zml y) (zrt y) ((zna y).name == "<init>") pc is = true := List.all_eq_true.mp h (pc, is) (zN_mem bs i _ hi)
