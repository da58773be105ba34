-- ===== the foes; the move of a part =====
/-- a foe: how many parts; their letters, shares, wishes, how many wishes -/
abbrev zfo : Type := Nat × (Nat → Nat) × (Nat → Nat) × (Nat → Nat → Nat) × (Nat → Nat)
def foOk (F : zfo) : Prop := (1 ≤ F.1 ∧ F.1 ≤ 14) ∧ ∀ k, k < F.1 → (F.2.1 k = 102 ∨ F.2.1 k = 109 ∨ F.2.1 k = 116 ∨ F.2.1 k = 114) ∧ (1 ≤ F.2.2.1 k ∧ F.2.2.1 k ≤ 9) ∧ F.2.2.2.2 k ≤ 9 ∧ ∀ i, i < F.2.2.2.2 k → F.2.2.2.1 k i ≤ 8
def mFo1 (f : Nat) (F : zfo) (I : zI) (L : zL) : Prop := I 10 f = nI F.1 ∧ ∀ k, k < F.1 → I 11 (14 * f + k) = nI (F.2.1 k) ∧ I 12 (14 * f + k) = nI (F.2.2.1 k) ∧ I 14 (14 * f + k) = nI (F.2.2.2.2 k) ∧ ∀ i, i < F.2.2.2.2 k → ((L 13 (14 * f + k) >>> (((4 : Int32) * nI i).toInt64 &&& 63)) &&& 15).toInt32 = nI (F.2.2.2.1 k i)
def mFo (nf : Nat) (fo : Nat → zfo) (I : zI) (L : zL) : Prop := nf ≤ 8 ∧ I 0 23 = nI nf ∧ ∀ f, f < nf → foOk (fo f) ∧ mFo1 f (fo f) I L
def sWsh (g : zg) (p : Nat) (wi : Nat → Nat) : Nat → Option Nat
  | 0 => none
  | j + 1 => match sWsh g p wi j with
    | some m => some m
    | none => if sCan g p (wi j) = true then some (wi j) else none
def sFm (g : zg) (p kd : Nat) : Nat → Option Nat
  | 0 => none
  | m + 1 => if sCan g p m = true then (match sFm g p kd m with
    | none => some m
    | some b => if kd = 109 ∧ sWth g (sVal g) p b < sWth g (sVal g) p m then some m else if kd = 116 ∧ sWth g (sVal g) p m < sWth g (sVal g) p b then some m else some b) else sFm g p kd m
def sFMo (g : zg) (F : zfo) (k p : Nat) : Option Nat := match (if F.2.1 k = 114 then sWsh g p (F.2.2.2.1 k) (F.2.2.2.2 k) else none) with
  | some m => some m
  | none => sFm g p (F.2.1 k) (sMM g)
/-- the move of the part k, no fool -/
def sFMv (g : zg) (F : zfo) (k p : Nat) : Nat := (sFMo g F k p).getD 0
theorem sWsh_can {g : zg} {p : Nat} {wi : Nat → Nat} : ∀ j m, sWsh g p wi j = some m → sCan g p m = true
  | 0, _, h => by cases h
  | j + 1, m, h => by
    rw [sWsh] at h
    cases q : sWsh g p wi j with
    | some m2 =>
      rw [q] at h
      have h : some m2 = some m := h
      cases h
      exact sWsh_can j m q
    | none =>
      rw [q] at h
      have h : (if sCan g p (wi j) = true then some (wi j) else none) = some m := h
      split at h
      · next c => cases h; exact c
      · cases h
theorem sWsh_more {g : zg} {p : Nat} {wi : Nat → Nat} {i m : Nat} (h : sWsh g p wi i = some m) : ∀ j, sWsh g p wi (i + j) = some m
  | 0 => h
  | j + 1 => by
    show (match sWsh g p wi (i + j) with | some m => some m | none => _) = _
    rw [sWsh_more h j]
theorem sFm_can {g : zg} {p kd : Nat} : ∀ n m, sFm g p kd n = some m → sCan g p m = true ∧ m < n
  | 0, _, h => by cases h
  | n + 1, m, h => by
    rw [sFm] at h
    split at h
    · next c =>
      cases q : sFm g p kd n with
      | none =>
        rw [q] at h
        have h : some n = some m := h
        cases h
        exact ⟨c, by omega⟩
      | some b =>
        rw [q] at h
        have hb := sFm_can n b q
        have h : (if kd = 109 ∧ sWth g (sVal g) p b < sWth g (sVal g) p n then some n else if kd = 116 ∧ sWth g (sVal g) p n < sWth g (sVal g) p b then some n else some b) = some m := h
        split at h
        · cases h; exact ⟨c, by omega⟩
        · split at h
          · cases h; exact ⟨c, by omega⟩
          · cases h; exact ⟨hb.1, by omega⟩
    · have := sFm_can n m h
      exact ⟨this.1, by omega⟩
theorem sFm_some {g : zg} {p kd : Nat} : ∀ n m, m < n → sCan g p m = true → ∃ b, sFm g p kd n = some b
  | 0, m, h, _ => absurd h (Nat.not_lt_zero _)
  | n + 1, m, h, hc => by
    rw [sFm]
    split
    · cases q : sFm g p kd n with
      | none => exact ⟨n, rfl⟩
      | some b =>
        dsimp only
        split
        · exact ⟨n, rfl⟩
        · split
          · exact ⟨n, rfl⟩
          · exact ⟨b, rfl⟩
    · next c =>
      have : m ≠ n := fun e => c (by rw [← e]; exact hc)
      exact sFm_some n m (by omega) hc
theorem sFMo_some {g : zg} (hg : gOk g) {F : zfo} {k p : Nat} (hw : sWork g p < 2) : ∃ m, sFMo g F k p = some m ∧ sCan g p m = true := by
  obtain ⟨m, hm⟩ := sCan_some hg hw
  obtain ⟨b, hb⟩ := sFm_some (kd := F.2.1 k) (sMM g) m (sCan_lt hm) hm
  unfold sFMo
  cases q : (if F.2.1 k = 114 then sWsh g p (F.2.2.2.1 k) (F.2.2.2.2 k) else none) with
  | none => exact ⟨b, hb, (sFm_can _ _ hb).1⟩
  | some m2 =>
    refine ⟨m2, rfl, ?_⟩
    split at q
    · exact sWsh_can _ _ q
    · cases q
theorem sFMv_eq {g : zg} (hg : gOk g) {F : zfo} {k p : Nat} (hw : sWork g p < 2) : sFMo g F k p = some (sFMv g F k p) := by
  obtain ⟨m, h1, -⟩ := sFMo_some hg (F := F) (k := k) hw
  unfold sFMv
  rw [h1]
  rfl
theorem sFMv_can {g : zg} (hg : gOk g) {F : zfo} {k p : Nat} (hw : sWork g p < 2) : sCan g p (sFMv g F k p) = true := by
  obtain ⟨m, h1, h2⟩ := sFMo_some hg (F := F) (k := k) hw
  unfold sFMv
  rw [h1]
  exact h2
section
variable {G : zG} {n : Nat} {I : zI} {L : zL} {q : zq} {post : zPo} {g : zg} {c : sC} {w : uW}
theorem mFo1_tC {f : Nat} {F : zfo} {I' : zI} (h : mFo1 f F I L) (hf : zFr tC I I') : mFo1 f F I' L := ⟨(hf 10 f rfl).trans h.1, fun k hk => ⟨(hf 11 _ rfl).trans (h.2 k hk).1, (hf 12 _ rfl).trans (h.2 k hk).2.1, (hf 14 _ rfl).trans (h.2 k hk).2.2.1, (h.2 k hk).2.2.2⟩⟩
theorem c_worthR {p m : Nat} (hg : mG g I) (hm : mPos g I) (hr : sR g p) (hw : sWork g p < 2) (hc : sCan g p m = true) (h : post (some (.int (nI (sWth g (sVal g) p m)))) I L (zR1 q)) : zC G (n + 5) 16 [.ref 0, .int (nI p), .int (nI m)] I L (zR1 q) post := by
  have hq := sR_step hr hw hc
  have pq := mPos_R hg.1 hm hq
  exact c_worth (v := sVal g) hg (sR_ok hg.1 hr) hc (sR_lt hg.1 hq) pq.2.1 (fun hw2 => ⟨pq.2.2 hw2, sVal_le g _⟩) h
theorem c_foeMove {f k p : Nat} {F : zfo} (hg : mG g I) (hm : mPos g I) (hr : sR g p) (hw : sWork g p < 2) (hf : f < 8) (hok : foOk F) (hF : mFo1 f F I L) (hk : k < F.1) (h : post (some (.int (nI (sFMv g F k p)))) I L (zR1 q)) : zC G (n + 6) 75 [.ref 0, .int (nI p), .int (nI (14 * f + k))] I L (zR1 q) post := by
  have hp := sR_ok hg.1 hr
  have hmm := sMM_pos hg.1
  have hk14 := hok.1.2
  obtain ⟨x1, x2, x3, x4⟩ := hF.2 k hk
  obtain ⟨o1, o2, o3, o4⟩ := hok.2 k hk
  have ec : (nI (14 * f + k)).toNatClampNeg = 14 * f + k := nI_clamp (by omega)
  have inb : vp_in (nI (14 * f + k)) 112 := vp_in_nI (by omega) (by decide)
  have ek : I 11 (nI (14 * f + k)).toNatClampNeg = nI (F.2.1 k) := by rw [ec, x1]
  have hsome := sFMv_eq hg.1 (F := F) (k := k) hw
  -- the loop for the best
  have best : (∀ m, sFm g p (F.2.1 k) (sMM g) = some m → m = sFMv g F k p) → zQ G 75 (n + 5) post 59 [some (.ref 0), some (.int (nI p)), some (.int (nI (14 * f + k))), none, none] [] I L (zR1 q) := by
    intro hfin
    have key : ∀ j i : Nat, i + j = sMM g → zQ G 75 (n + 5) post 64 [some (.ref 0), some (.int (nI p)), some (.int (nI (14 * f + k))), some (.int (zon (sFm g p (F.2.1 k) i))), some (.int (nI i))] [] I L (zR1 q) := by
      intro j
      induction j with
      | zero =>
        intro i hi
        have e : i = sMM g := by omega
        subst e
        obtain ⟨m, hm1⟩ := sCan_some hg.1 hw
        obtain ⟨b, hb⟩ := sFm_some (kd := F.2.1 k) (sMM g) m (sCan_lt hm1) hm1
        refine b75_64 (c_moveMany hg (pk_le (sMM g) (sMM g) (fun _ => b75_166 ?_) (fun z => absurd z (by omega)) rfl rfl (by omega) (by omega)))
        rw [hb]
        rw [← hfin b hb] at h
        exact h
      | succ j ih =>
        intro i hi
        have back : sFm g p (F.2.1 k) (i + 1) = sFm g p (F.2.1 k) (i + 1) → zQ G 75 (n + 5) post 160 [some (.ref 0), some (.int (nI p)), some (.int (nI (14 * f + k))), some (.int (zon (sFm g p (F.2.1 k) (i + 1)))), some (.int (nI i))] [] I L (zR1 q) := by
          intro _
          have qq := ih (i + 1) (by omega)
          rw [← nI_1] at qq
          exact b75_160 qq
        have back := back rfl
        refine b75_64 (c_moveMany hg (pk_le (sMM g) i (fun z => absurd z (by omega)) (fun _ => ?_) rfl rfl (by omega) (by omega)))
        refine c_can hg hp (by omega) (zbo_ne (fun z => b75_86 ?_) (fun z => ?_))
        · cases qb : sFm g p (F.2.1 k) i with
          | none =>
            rw [show sFm g p (F.2.1 k) (i + 1) = some i by rw [sFm, if_pos z, qb]] at back
            exact And.intro (fun z2 => absurd rfl z2) (fun _ => back)
          | some b =>
            obtain ⟨hb1, hb2⟩ := sFm_can _ _ qb
            have l1 := sWth_le g (sVal g) p i
            have l2 := sWth_le g (sVal g) p b
            have e : sFm g p (F.2.1 k) (i + 1) = (if F.2.1 k = 109 ∧ sWth g (sVal g) p b < sWth g (sVal g) p i then some i else if F.2.1 k = 116 ∧ sWth g (sVal g) p i < sWth g (sVal g) p b then some i else some b) := by rw [sFm, if_pos z, qb]
            rw [e] at back
            have p130 : ¬ (F.2.1 k = 109 ∧ sWth g (sVal g) p b < sWth g (sVal g) p i) → zQ G 75 (n + 5) post 130 [some (.ref 0), some (.int (nI p)), some (.int (nI (14 * f + k))), some (.int (nI b)), some (.int (nI i))] [] I L (zR1 q) := by
              intro hn
              rw [if_neg hn] at back
              refine b75_130 (And.intro inb ?_)
              refine pk_ne (F.2.1 k) 116 (fun z2 => ?_) (fun z2 => ?_) ek rfl (by omega) (by omega)
              · rw [if_neg (fun z3 => z2 z3.1)] at back
                exact back
              · refine c_worthR hg hm hr hw z (c_worthR hg hm hr hw hb1 ?_)
                refine pk_le (sWth g (sVal g) p b) (sWth g (sVal g) p i) (fun z3 => ?_) (fun z3 => ?_) rfl rfl (by omega) (by omega)
                · rw [if_neg (fun z4 => by omega)] at back
                  exact back
                · rw [if_pos ⟨z2, z3⟩] at back
                  exact back
            refine And.intro (fun _ => b75_97 (And.intro inb ?_)) (fun z2 => absurd z2 (zon_ne (by omega)))
            refine pk_ne (F.2.1 k) 109 (fun z2 => p130 fun z3 => z2 z3.1) (fun z2 => ?_) ek rfl (by omega) (by omega)
            refine c_worthR hg hm hr hw z (c_worthR hg hm hr hw hb1 ?_)
            refine pk_le (sWth g (sVal g) p i) (sWth g (sVal g) p b) (fun z3 => p130 fun z4 => by omega) (fun z3 => ?_) rfl rfl (by omega) (by omega)
            rw [if_pos ⟨z2, z3⟩] at back
            exact back
        · rw [show sFm g p (F.2.1 k) (i + 1) = sFm g p (F.2.1 k) i by rw [sFm, if_neg (by rw [z]; exact Bool.false_ne_true)]] at back
          exact back
    exact b75_59 (key (sMM g) 0 (by omega))
  refine zin0 rfl rfl rfl (b75_0 (And.intro inb ?_))
  refine pk_ne (F.2.1 k) 114 (fun z => zP_lv (by exact ⟨rfl, rfl, rfl, trivial⟩) (best fun m hm2 => ?_)) (fun z => ?_) ek rfl (by omega) (by omega)
  · unfold sFMo at hsome
    rw [if_neg z] at hsome
    have hsome : sFm g p (F.2.1 k) (sMM g) = _ := hsome
    rw [hm2] at hsome
    cases hsome
    rfl
  · have key : ∀ j i : Nat, i + j = F.2.2.2.2 k → sWsh g p (F.2.2.2.1 k) i = none → zQ G 75 (n + 5) post 13 [some (.ref 0), some (.int (nI p)), some (.int (nI (14 * f + k))), some (.int (nI i)), none] [] I L (zR1 q) := by
      intro j
      have e14 : I 14 (nI (14 * f + k)).toNatClampNeg = nI (F.2.2.2.2 k) := by rw [ec, x3]
      induction j with
      | zero =>
        intro i hi hn
        refine b75_13 (And.intro inb (pk_le (F.2.2.2.2 k) i (fun _ => zP_lv (by exact ⟨rfl, rfl, rfl, trivial⟩) (best fun m hm2 => ?_)) (fun z => absurd z (by omega)) e14 rfl (by omega) (by omega)))
        unfold sFMo at hsome
        rw [if_pos z, show F.2.2.2.2 k = i by omega, hn] at hsome
        have hsome : sFm g p (F.2.1 k) (sMM g) = _ := hsome
        rw [hm2] at hsome
        cases hsome
        rfl
      | succ j ih =>
        intro i hi hn
        refine b75_13 (And.intro inb (pk_le (F.2.2.2.2 k) i (fun z => absurd z (by omega)) (fun _ => And.intro inb ?_) e14 rfl (by omega) (by omega)))
        have ew : ((L 13 (nI (14 * f + k)).toNatClampNeg >>> (((4 : Int32) * nI i).toInt64 &&& 63)) &&& 15).toInt32 = nI (F.2.2.2.1 k i) := by rw [ec]; exact x4 i (by omega)
        have hwi := o4 i (by omega)
        show zC G (n + 5) 11 [.ref 0, .int (nI p), .int ((L 13 (nI (14 * f + k)).toNatClampNeg >>> (((4 : Int32) * nI i).toInt64 &&& 63)) &&& 15).toInt32] I L (zR1 q) _
        rw [ew]
        have hs : sWsh g p (F.2.2.2.1 k) (i + 1) = if sCan g p (F.2.2.2.1 k i) = true then some (F.2.2.2.1 k i) else none := by rw [sWsh, hn]
        refine c_can hg hp (by omega) (zbo_eq (fun z2 => b75_53 ?_) (fun z2 => ?_))
        · rw [if_neg (by rw [z2]; exact Bool.false_ne_true)] at hs
          have qq := ih (i + 1) (by omega) hs
          rw [← nI_1] at qq
          exact zP_lv (by exact ⟨rfl, rfl, rfl, rfl, trivial⟩) qq
        · rw [if_pos z2] at hs
          have hs2 := sWsh_more hs j
          rw [show i + 1 + j = F.2.2.2.2 k by omega] at hs2
          unfold sFMo at hsome
          rw [if_pos z, hs2] at hsome
          have hsome : some (F.2.2.2.1 k i) = some (sFMv g F k p) := hsome
          injection hsome with hsome
          rw [← hsome] at h
          exact h
    exact zP_lv (by exact ⟨rfl, rfl, rfl, rfl, trivial⟩) (key (F.2.2.2.2 k) 0 (by omega) rfl)
end
