-- ===== the reference: drawing a part, a move; what is in a chest =====
theorem zup_id {α : Type} (f : Nat → Nat → α) (o k : Nat) : zup f o k (f o k) = f := by
  funext a b
  unfold zup
  split
  · next c => subst c; split
              · next d => rw [d]
              · rfl
  · rfl
theorem zup_zup {α : Type} (f : Nat → Nat → α) (o k : Nat) (u v : α) : zup (zup f o k u) o k v = zup f o k v := by
  funext a b
  unfold zup
  split
  · split <;> rfl
  · rfl
def sPick (w : Nat → Nat) : Nat → Nat → Nat → Nat
  | 0, k, _ => k
  | f + 1, k, l => if l < w k then k else sPick w f (k + 1) (l - w k)
def sS (w : Nat → Nat) : Nat → Nat → Nat
  | 0, _ => 0
  | f + 1, k => w k + sS w f (k + 1)
theorem sS_sum (w : Nat → Nat) : ∀ m n, sSum w n + sS w m n = sSum w (n + m)
  | 0, n => rfl
  | m + 1, n => by
    have q := sS_sum w m (n + 1)
    rw [show n + (m + 1) = n + 1 + m by omega, ← q]
    show sSum w n + (w n + sS w m (n + 1)) = sSum w n + w n + sS w m (n + 1)
    omega
theorem sS_0 (w : Nat → Nat) (n : Nat) : sS w n 0 = sSum w n := by
  have q := sS_sum w n 0
  rw [Nat.zero_add] at q
  rw [← q]
  exact (Nat.zero_add _).symm
theorem sPick_in (w : Nat → Nat) : ∀ f k l, l < sS w f k → k ≤ sPick w f k l ∧ sPick w f k l < k + f ∧ 0 < w (sPick w f k l)
  | 0, k, l, h => absurd h (Nat.not_lt_zero _)
  | f + 1, k, l, h => by
    have h : l < w k + sS w f (k + 1) := h
    rw [sPick]
    split
    · exact ⟨Nat.le_refl _, by omega, by omega⟩
    · have q := sPick_in w f (k + 1) (l - w k) (by omega)
      exact ⟨by omega, by omega, q.2.2⟩
theorem sDr_lt {r : Int32} {k : Nat} (h : 0 < k) : sDr r k < k := Nat.mod_lt _ h
/-- the part of a foe that is told, and R -/
def sFPt (F : zfo) (r : Int32) : Nat × Int32 := if 1 < F.1 then (sPick F.2.2.1 F.1 0 (sDr r (sSum F.2.2.1 F.1)), sRnd r) else (0, r)
def sCanW (g : zg) (p m : Nat) : Nat := if sCan g p m = true then 1 else 0
def sDF (g : zg) (F : zfo) (p : Nat) (r : Int32) : Nat × Int32 := if F.2.1 (sFPt F r).1 = 102 then (sPick (sCanW g p) (sMM g) 0 (sDr (sFPt F r).2 (sSum (sCanW g p) (sMM g))), sRnd (sFPt F r).2) else (sFMv g F (sFPt F r).1 p, (sFPt F r).2)
theorem sCanW_pos {g : zg} (hg : gOk g) {p : Nat} (hw : sWork g p < 2) : 0 < sSum (sCanW g p) (sMM g) := by
  obtain ⟨m, hm⟩ := sCan_some hg hw
  have q := sSum_ge (f := sCanW g p) (sMM g) (sCan_lt hm)
  unfold sCanW at q
  rw [if_pos hm] at q
  exact q
theorem sCanW_le (g : zg) (p : Nat) : ∀ n, sSum (sCanW g p) n ≤ n
  | 0 => Nat.le_refl _
  | n + 1 => by
    have := sCanW_le g p n
    have : sCanW g p n ≤ 1 := by unfold sCanW; split <;> omega
    show sSum (sCanW g p) n + sCanW g p n ≤ n + 1
    omega
theorem foSum {F : zfo} (h : foOk F) : ∀ n, n ≤ F.1 → n ≤ sSum F.2.2.1 n ∧ sSum F.2.2.1 n ≤ 9 * n
  | 0, _ => ⟨Nat.le_refl _, Nat.le_refl _⟩
  | n + 1, hn => by
    have q := foSum h n (by omega)
    have := (h.2 n (by omega)).2.1
    show n + 1 ≤ sSum F.2.2.1 n + F.2.2.1 n ∧ sSum F.2.2.1 n + F.2.2.1 n ≤ 9 * (n + 1)
    omega
theorem sFPt_lt {F : zfo} (h : foOk F) (r : Int32) : (sFPt F r).1 < F.1 := by
  unfold sFPt
  split
  · have q := foSum h F.1 (Nat.le_refl _)
    have hd : sDr r (sSum F.2.2.1 F.1) < sS F.2.2.1 F.1 0 := by rw [sS_0]; exact sDr_lt (by omega)
    have := (sPick_in F.2.2.1 F.1 0 _ hd).2.1
    show sPick _ _ _ _ < _
    omega
  · exact h.1.1
theorem sDF_can {g : zg} (hg : gOk g) {F : zfo} {p : Nat} (r : Int32) (hw : sWork g p < 2) : sCan g p (sDF g F p r).1 = true := by
  unfold sDF
  split
  · have hd : sDr (sFPt F r).2 (sSum (sCanW g p) (sMM g)) < sS (sCanW g p) (sMM g) 0 := by rw [sS_0]; exact sDr_lt (sCanW_pos hg hw)
    have q := (sPick_in _ _ _ _ hd).2.2
    show sCan g p (sPick _ _ _ _) = true
    unfold sCanW at q
    split at q
    · next c => exact c
    · omega
  · exact sFMv_can hg hw
section
variable {G : zG} {n : Nat} {I : zI} {L : zL} {q : zq} {post : zPo} {g : zg} {c : sC} {w : uW}
theorem mPos_tC {I' : zI} (h : mPos g I) (hf : zFr tC I I') : mPos g I' := mPos_of h (zFr_row hf fun _ => rfl) (zFr_row hf fun _ => rfl) (zFr_row hf fun _ => rfl)
theorem zFr_R (I : zI) (v : Int32) : zFr tC I (zup I 0 16 v) := zFr_up (zFr_0 _ _) rfl
theorem c_drawFoe {f p : Nat} {F : zfo} (hg : mG g I) (hm : mPos g I) (hr : sR g p) (hw : sWork g p < 2) (hf : f < 8) (hok : foOk F) (hF : mFo1 f F I L) (h : post (some (.int (nI (sDF g F p (I 0 16)).1))) (zup I 0 16 (sDF g F p (I 0 16)).2) L (zR1 q)) : zC G (n + 7) 85 [.ref 0, .int (nI p), .int (nI f)] I L (zR1 q) post := by
  have hp := sR_ok hg.1 hr
  have hmm := sMM_pos hg.1
  have hk14 := hok.1
  have e14 : (14 : Int32) * nI f = nI (14 * f) := pk_mul 14 f
  have ecf : (nI f).toNatClampNeg = f := nI_clamp (by omega)
  have inf : vp_in (nI f) 8 := vp_in_nI hf (by decide)
  have e10 : I 10 (nI f).toNatClampNeg = nI F.1 := by rw [ecf, hF.1]
  -- behind the part
  have p91 : ∀ (k : Nat) (r : Int32), sFPt F (I 0 16) = (k, r) → k < F.1 → zQ G 85 (n + 6) post 91 [some (.ref 0), some (.int (nI p)), some (.int (nI f)), some (.int (nI (14 * f + k))), none, none, none] [] (zup I 0 16 r) L (zR1 q) := by
    intro k r hkr hk
    have hfr := zFr_R I r
    have hg' := mG_tC hg hfr
    have hm' := mPos_tC hm hfr
    have hF' := mFo1_tC hF hfr
    have inb : vp_in (nI (14 * f + k)) 112 := vp_in_nI (by omega) (by decide)
    have ek : zup I 0 16 r 11 (nI (14 * f + k)).toNatClampNeg = nI (F.2.1 k) := by rw [nI_clamp (by omega)]; exact (hF'.2 k hk).1
    obtain ⟨o1, -⟩ := hok.2 k hk
    have es : sDF g F p (I 0 16) = if F.2.1 k = 102 then (sPick (sCanW g p) (sMM g) 0 (sDr r (sSum (sCanW g p) (sMM g))), sRnd r) else (sFMv g F k p, r) := by unfold sDF; rw [hkr]
    rw [es] at h
    refine b85_91 (And.intro inb ?_)
    refine pk_eq (F.2.1 k) 102 (fun z => ?_) (fun z => ?_) ek rfl (by omega) (by omega)
    · rw [if_pos z] at h
      have hcw := sCanW_pos hg.1 hw
      have hcl := sCanW_le g p (sMM g)
      have last : ∀ fl m l, m + fl = sMM g → l < sS (sCanW g p) fl m → l < 2 ^ 20 → sPick (sCanW g p) fl m l = sPick (sCanW g p) (sMM g) 0 (sDr r (sSum (sCanW g p) (sMM g))) → zQ G 85 (n + 6) post 161 [some (.ref 0), some (.int (nI p)), some (.int (nI f)), some (.int (nI (14 * f + k))), some (.int (nI (sSum (sCanW g p) (sMM g)))), some (.int (nI l)), some (.int (nI m))] [] (zup I 0 16 (sRnd r)) L (zR1 q) := by
        have hfr2 := zFr_R I (sRnd r)
        have hg2 := mG_tC hg hfr2
        intro fl
        induction fl with
        | zero => intro m l _ hl; exact absurd hl (Nat.not_lt_zero _)
        | succ fl ih =>
          intro m l hm2 hl hl2 hp2
          rw [sPick] at hp2
          have hl : l < sCanW g p m + sS (sCanW g p) fl (m + 1) := hl
          have next : ∀ x : Int32, x = nI (sCanW g p m) → ¬ l < sCanW g p m → zQ G 85 (n + 6) post 193 [some (.ref 0), some (.int (nI p)), some (.int (nI f)), some (.int (nI (14 * f + k))), some (.int (nI (sSum (sCanW g p) (sMM g)))), some (.int (nI l)), some (.int (nI m))] [.int x, .int (nI l)] (zup I 0 16 (sRnd r)) L (zR1 q) := by
            intro x hx hnl
            rw [if_neg hnl] at hp2
            have qq := ih (m + 1) (l - sCanW g p m) (by omega) (by omega) (by omega) hp2
            rw [← nI_1, ← pk_sub (by omega), ← hx] at qq
            exact b85_193 qq
          have p176 : ¬ l < sCanW g p m → zQ G 85 (n + 6) post 176 [some (.ref 0), some (.int (nI p)), some (.int (nI f)), some (.int (nI (14 * f + k))), some (.int (nI (sSum (sCanW g p) (sMM g)))), some (.int (nI l)), some (.int (nI m))] [] (zup I 0 16 (sRnd r)) L (zR1 q) := by
            intro hnl
            refine b85_176 (c_can hg2 hp (by omega) (zbo_eq (fun z2 => b85_192 (next 0 ?_ hnl)) (fun z2 => next 1 ?_ hnl)))
            · unfold sCanW; rw [if_neg (by rw [z2]; exact Bool.false_ne_true)]; rfl
            · unfold sCanW; rw [if_pos z2]; rfl
          refine b85_161 (c_can hg2 hp (by omega) (zbo_eq (fun z2 => p176 ?_) (fun z2 => ?_)))
          · unfold sCanW; rw [if_neg (by rw [z2]; exact Bool.false_ne_true)]; omega
          · have e1 : sCanW g p m = 1 := by unfold sCanW; rw [if_pos z2]
            refine pk_le l 0 (fun z3 => b85_202 ?_) (fun z3 => p176 (by omega)) rfl rfl (by omega) (by omega)
            rw [if_pos (by omega)] at hp2
            rw [← hp2] at h
            exact h
      have cnt : ∀ j i : Nat, i + j = sMM g → zQ G 85 (n + 6) post 115 [some (.ref 0), some (.int (nI p)), some (.int (nI f)), some (.int (nI (14 * f + k))), some (.int (nI (sSum (sCanW g p) i))), some (.int (nI i)), none] [] (zup I 0 16 r) L (zR1 q) := by
        intro j
        induction j with
        | zero =>
          intro i hi
          have e : i = sMM g := by omega
          subst e
          refine b85_115 (c_moveMany hg' (pk_le (sMM g) (sMM g) (fun _ => b85_150 (c_draw hcw (by omega) ?_)) (fun z => absurd z (by omega)) rfl rfl (by omega) (by omega)))
          rw [zup_zup, show zup I 0 16 r 0 16 = r from zup_self]
          have hdl := sDr_lt (r := r) hcw
          exact last (sMM g) 0 _ (by omega) (by rw [sS_0]; exact hdl) (by omega) rfl
        | succ j ih =>
          intro i hi
          have qq := ih (i + 1) (by omega)
          have e : nI (sSum (sCanW g p) (i + 1)) = nI (sSum (sCanW g p) i) + nI (sCanW g p i) := by rw [nI_add]; rfl
          rw [← nI_1, e] at qq
          refine b85_115 (c_moveMany hg' (pk_le (sMM g) i (fun z => absurd z (by omega)) (fun _ => c_can hg' hp (by omega) (zbo_eq (fun z2 => b85_140 (b85_141 ?_)) (fun z2 => b85_141 ?_))) rfl rfl (by omega) (by omega)))
          · rw [show nI (sCanW g p i) = 0 by unfold sCanW; rw [if_neg (by rw [z2]; exact Bool.false_ne_true)]; rfl] at qq
            exact qq
          · rw [show nI (sCanW g p i) = 1 by unfold sCanW; rw [if_pos z2]; rfl] at qq
            exact qq
      exact b85_109 (cnt (sMM g) 0 (by omega))
    · rw [if_neg z] at h
      exact c_foeMove hg' hm' hr hw hf hok hF' hk h
  refine zin0 rfl rfl rfl (b85_0 (And.intro inf ?_))
  refine pk_le F.1 1 (fun z => ?_) (fun z => ?_) e10 rfl (by omega) (by omega)
  · have qq := p91 0 (I 0 16) (by unfold sFPt; rw [if_neg (by omega)]) (by omega)
    rw [zup_id, show 14 * f + 0 = 14 * f from rfl, ← e14] at qq
    exact zP_lv (by exact ⟨rfl, rfl, rfl, rfl, trivial⟩) qq
  · have hs := foSum hok F.1 (Nat.le_refl _)
    have pick : ∀ fl k l, k + fl = F.1 → l < sS F.2.2.1 fl k → l < 2 ^ 20 → sPick F.2.2.1 fl k l = sPick F.2.2.1 F.1 0 (sDr (I 0 16) (sSum F.2.2.1 F.1)) → zQ G 85 (n + 6) post 63 [some (.ref 0), some (.int (nI p)), some (.int (nI f)), some (.int (nI (14 * f + k))), none, some (.int (nI l)), none] [] (zup I 0 16 (sRnd (I 0 16))) L (zR1 q) := by
      intro fl
      induction fl with
      | zero => intro k l _ hl; exact absurd hl (Nat.not_lt_zero _)
      | succ fl ih =>
        intro k l hk hl hl2 hp2
        rw [sPick] at hp2
        have hl : l < F.2.2.1 k + sS F.2.2.1 fl (k + 1) := hl
        have hkF : k < F.1 := by omega
        have o3 := (hok.2 k hkF).2.1
        have inb : vp_in (nI (14 * f + k)) 112 := vp_in_nI (by omega) (by decide)
        have esh : zup I 0 16 (sRnd (I 0 16)) 12 (nI (14 * f + k)).toNatClampNeg = nI (F.2.2.1 k) := by rw [nI_clamp (by omega)]; exact (hF.2 k hkF).2.1
        refine b85_63 (And.intro inb (pk_lt l (F.2.2.1 k) (fun z2 => ?_) (fun z2 => And.intro inb ?_) rfl esh (by omega) (by omega)))
        · rw [if_pos z2] at hp2
          refine zP_lv (by exact ⟨rfl, rfl, rfl, rfl, trivial⟩) (p91 k (sRnd (I 0 16)) ?_ hkF)
          unfold sFPt
          rw [if_pos (by omega), ← hp2]
        · rw [if_neg (by omega)] at hp2
          have qq := ih (k + 1) (l - F.2.2.1 k) (by omega) (by omega) (by omega) hp2
          rw [← Nat.add_assoc, ← nI_1, ← pk_sub z2, ← esh] at qq
          exact qq
    have sum : ∀ j i : Nat, i + j = F.1 → zQ G 85 (n + 6) post 21 [some (.ref 0), some (.int (nI p)), some (.int (nI f)), some (.int (nI (14 * f))), some (.int (nI (sSum F.2.2.1 i))), some (.int (nI i)), none] [] I L (zR1 q) := by
      intro j
      induction j with
      | zero =>
        intro i hi
        have e : i = F.1 := by omega
        subst e
        refine b85_21 (And.intro inf (pk_le F.1 F.1 (fun _ => b85_55 (c_draw (by omega) (by omega) ?_)) (fun z => absurd z (by omega)) e10 rfl (by omega) (by omega)))
        have hdl := sDr_lt (r := I 0 16) (k := sSum F.2.2.1 F.1) (by omega)
        have qq := pick F.1 0 _ (by omega) (by rw [sS_0]; exact hdl) (by omega) rfl
        rw [show 14 * f + 0 = 14 * f from rfl] at qq
        exact zP_lv (by exact ⟨rfl, rfl, rfl, rfl, rfl, trivial⟩) qq
      | succ j ih =>
        intro i hi
        have e12 : (14 : Int32) * nI f + nI i = nI (14 * f + i) := by rw [e14, nI_add]
        have inb : vp_in ((14 : Int32) * nI f + nI i) 112 := by rw [e12]; exact vp_in_nI (by omega) (by decide)
        have esh : I 12 ((14 : Int32) * nI f + nI i).toNatClampNeg = nI (F.2.2.1 i) := by rw [e12, nI_clamp (by omega)]; exact (hF.2 i (by omega)).2.1
        refine b85_21 (And.intro inf (pk_le F.1 i (fun z => absurd z (by omega)) (fun _ => And.intro inb ?_) e10 rfl (by omega) (by omega)))
        have qq := ih (i + 1) (by omega)
        rw [← nI_1, show sSum F.2.2.1 (i + 1) = sSum F.2.2.1 i + F.2.2.1 i from rfl, ← nI_add, ← esh] at qq
        exact qq
    have qq := sum F.1 0 (by omega)
    rw [← e14] at qq
    exact qq
end
