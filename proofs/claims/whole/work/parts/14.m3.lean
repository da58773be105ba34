-- ===== the reference: rows of stones, how a position is =====
def iI (z : Int) : Int32 := Int32.ofInt z
theorem iI_toInt {z : Int} (h1 : -1000000 ≤ z) (h2 : z ≤ 1000000) : (iI z).toInt = z := by
  unfold iI
  rw [Int32.toInt_ofInt]
  show z.bmod 4294967296 = z
  exact Int.bmod_eq_of_le (by omega) (by omega)
theorem iI_add (a b : Int) : iI a + iI b = iI (a + b) := (Int32.ofInt_add a b).symm
theorem iI_n (k : Nat) : iI (k : Int) = nI k := rfl
def sDx (d : Nat) : Int := if d = 1 then 0 else 1
def sDy (d : Nat) : Int := if d = 0 then 0 else if d = 3 then -1 else 1
def sX (g : zg) (pl d i : Nat) : Int := ((pl % g 1 : Nat) : Int) + i * sDx d
def sY (g : zg) (pl d i : Nat) : Int := ((pl / g 1 : Nat) : Int) + i * sDy d
/-- the i-th place from pl in direction d is on the board, and holds the stone s -/
def sAt (g : zg) (p s pl d i : Nat) : Bool := decide (0 ≤ sX g pl d i ∧ sX g pl d i < g 1) && (decide (0 ≤ sY g pl d i ∧ sY g pl d i < g 2) && decide (sCell p (g 1 * (sY g pl d i).toNat + (sX g pl d i).toNat) = s))
def sRay (g : zg) (p s pl d : Nat) : Bool := (List.range (g 3)).all (sAt g p s pl d)
def sRow (g : zg) (p s : Nat) : Bool := (List.range (sPl g)).any fun pl => (List.range 4).any fun d => sRay g p s pl d
theorem sDx_s (d i : Nat) (g : zg) (pl : Nat) : sX g pl d (i + 1) = sX g pl d i + sDx d := by
  unfold sX
  rw [Int.natCast_add, Int.add_mul]
  omega
theorem sDy_s (d i : Nat) (g : zg) (pl : Nat) : sY g pl d (i + 1) = sY g pl d i + sDy d := by
  unfold sY
  rw [Int.natCast_add, Int.add_mul]
  omega
theorem sXY_small {g : zg} (hg : gOk g) {pl d i : Nat} (hp : pl < 9) (hi : i ≤ 3) : (-3 ≤ sX g pl d i ∧ sX g pl d i ≤ 20) ∧ (-3 ≤ sY g pl d i ∧ sY g pl d i ≤ 20) := by
  have h1 : pl % g 1 ≤ pl := Nat.mod_le _ _
  have h2 : pl / g 1 ≤ pl := Nat.div_le_self _ _
  unfold sX sY sDx sDy
  generalize pl % g 1 = a at *
  generalize pl / g 1 = b at *
  refine ⟨?_, ?_⟩
  · split <;> omega
  · split
    · omega
    · split <;> omega
section
variable {G : zG} {n : Nat} {I : zI} {L : zL} {q : zq} {post : zPo} {g : zg}
theorem c_inI {z : Int} {x li hhi : Int32} {hi : Nat} {R : zR} (hx : x = iI z) (hl : li = 0) (hh : hhi = nI hi) (h1 : -1000 ≤ z) (h2 : z ≤ 1000) (h3 : hi ≤ 1000) (h : post (some (.int (zbo (decide (0 ≤ z ∧ z < (hi : Int) + 1))))) I L R) : zC G (n + 1) 2 [.int x, .int li, .int hhi] I L R post := by
  subst hx hl hh
  refine c_in ?_
  rw [show decide ((0 : Int32) ≤ iI z ∧ iI z ≤ nI hi) = decide (0 ≤ z ∧ z < (hi : Int) + 1) from decide_eq_decide.mpr (by
    rw [Int32.le_iff_toInt_le, Int32.le_iff_toInt_le, iI_toInt (by omega) (by omega), nI_toInt (by omega), show (0 : Int32).toInt = 0 from by decide]
    omega)]
  exact h
theorem c_hasRow {p s : Nat} {si : Int32} (hsi : si = nI s) (hg : mG g I) (hp : p < 2 ^ 31) (hs : s < 2 ^ 31) (hgb : g 0 = 0) (h : post (some (.int (zbo (sRow g p s)))) I L (zR1 q)) : zC G (n + 2) 13 [.ref 0, .int (nI p), .int si] I L (zR1 q) post := by
  subst hsi
  have hpl := sPl_pos hg.1
  have e1 : I 0 1 = nI (g 1) := mG0 hg 1 (by decide)
  have e2 : I 0 2 = nI (g 2) := mG0 hg 2 (by decide)
  have e3 : I 0 3 = nI (g 3) := mG0 hg 3 (by decide)
  obtain ⟨-, ⟨w1, w2⟩, ⟨v1, v2⟩, ⟨r1, r2⟩, -⟩ := id hg.1
  -- the ray
  have ray : ∀ (pl d : Nat), pl < sPl g → (∀ i : Nat, ((i = g 3 ∧ sRay g p s pl d = true) ∨ (i < g 3 ∧ sRay g p s pl d = false)) → zQ G 13 (n + 1) post 151 [some (.ref 0), some (.int (nI p)), some (.int (nI s)), some (.int (nI pl)), some (.int (nI d)), none, none, none, none, some (.int (nI i))] [] I L (zR1 q)) →
      ∀ j i : Nat, i + j = g 3 → (∀ i', i' < i → sAt g p s pl d i' = true) → zQ G 13 (n + 1) post 73 [some (.ref 0), some (.int (nI p)), some (.int (nI s)), some (.int (nI pl)), some (.int (nI d)), some (.int (iI (sDx d))), some (.int (iI (sDy d))), some (.int (iI (sX g pl d i))), some (.int (iI (sY g pl d i))), some (.int (nI i))] [] I L (zR1 q) := by
    intro pl d hpl9 k j
    induction j with
    | zero =>
      intro i hi ht
      refine b13_73 ?_
      show (I 0 3 ≤ nI i → _) ∧ (¬ I 0 3 ≤ nI i → _)
      rw [e3]
      refine pk_le (g 3) i (fun _ => ?_) (fun z => absurd z (by omega)) rfl rfl (by omega) (by omega)
      refine zP_lv ?_ (k i (Or.inl ⟨by omega, ?_⟩))
      · exact ⟨rfl, rfl, rfl, rfl, rfl, rfl, trivial⟩
      · exact List.all_eq_true.mpr fun i' hi' => ht i' (by have := List.mem_range.mp hi'; omega)
    | succ j ih =>
      intro i hi ht
      obtain ⟨⟨x1, x2⟩, ⟨y1, y2⟩⟩ := sXY_small (d := d) hg.1 (show pl < 9 by omega) (show i ≤ 3 by omega)
      have bad : sAt g p s pl d i = false → zQ G 13 (n + 1) post 151 [some (.ref 0), some (.int (nI p)), some (.int (nI s)), some (.int (nI pl)), some (.int (nI d)), some (.int (iI (sDx d))), some (.int (iI (sDy d))), some (.int (iI (sX g pl d i))), some (.int (iI (sY g pl d i))), some (.int (nI i))] [] I L (zR1 q) := by
        intro hb
        refine zP_lv ?_ (k i (Or.inr ⟨by omega, ?_⟩))
        · exact ⟨rfl, rfl, rfl, rfl, rfl, rfl, trivial⟩
        · cases hr : sRay g p s pl d with
          | false => rfl
          | true =>
            have := List.all_eq_true.mp hr i (List.mem_range.mpr (by omega))
            rw [hb] at this
            cases this
      refine b13_73 ?_
      show (I 0 3 ≤ nI i → _) ∧ (¬ I 0 3 ≤ nI i → zC G (n + 1) 2 [.int (iI (sX g pl d i)), .int 0, .int (I 0 1 - 1)] I L (zR1 q) _)
      rw [e3, e1]
      refine pk_le (g 3) i (fun z => absurd z (by omega)) (fun _ => ?_) rfl rfl (by omega) (by omega)
      refine c_inI (hi := g 1 - 1) rfl rfl (pk_sub (b := 1) w1) (by omega) (by omega) (by omega) ?_
      refine zbo_eq (fun z => ?_) (fun z => ?_)
      · refine bad ?_
        unfold sAt
        rw [decide_eq_false (by have := of_decide_eq_false z; omega)]
        rfl
      · have hx := of_decide_eq_true z
        show zC G (n + 1) 2 [.int (iI (sY g pl d i)), .int 0, .int (I 0 2 - 1)] I L (zR1 q) _
        rw [e2]
        refine c_inI (hi := g 2 - 1) rfl rfl (pk_sub (b := 1) v1) (by omega) (by omega) (by omega) ?_
        refine zbo_eq (fun z => ?_) (fun z => ?_)
        · refine bad ?_
          unfold sAt
          rw [decide_eq_false (p := 0 ≤ sY g pl d i ∧ _) (by have := of_decide_eq_false z; omega), Bool.false_and, Bool.and_false]
        · have hy := of_decide_eq_true z
          have hpos : g 1 * (sY g pl d i).toNat + (sX g pl d i).toNat < 9 := by
            have a1 : (sY g pl d i).toNat ≤ 2 := by omega
            have a2 : g 1 * (sY g pl d i).toNat ≤ 3 * 2 := Nat.mul_le_mul w2 a1
            omega
          have ep : I 0 1 * iI (sY g pl d i) + iI (sX g pl d i) = nI (g 1 * (sY g pl d i).toNat + (sX g pl d i).toNat) := by
            rw [e1, show iI (sY g pl d i) = nI (sY g pl d i).toNat by rw [← iI_n]; congr 1; omega, show iI (sX g pl d i) = nI (sX g pl d i).toNat by rw [← iI_n]; congr 1; omega, pk_mul, nI_add]
          show zC G (n + 1) 5 [.ref 0, .int (nI p), .int (I 0 1 * iI (sY g pl d i) + iI (sX g pl d i))] I L (zR1 q) _
          rw [ep]
          refine c_cell hp (by omega) ?_
          have hc : sCell p (g 1 * (sY g pl d i).toNat + (sX g pl d i).toNat) < 3 := Nat.mod_lt _ (by decide)
          have heq : sAt g p s pl d i = decide (sCell p (g 1 * (sY g pl d i).toNat + (sX g pl d i).toNat) = s) := by
            unfold sAt
            rw [decide_eq_true (p := 0 ≤ sX g pl d i ∧ _) (by omega), decide_eq_true (p := 0 ≤ sY g pl d i ∧ _) (by omega), Bool.true_and, Bool.true_and]
          refine And.intro (fun z => bad ?_) (fun z => ?_)
          · rw [heq, decide_eq_false (fun w => z (by rw [w]))]
          · have hs2 := (nI_eq (by omega) hs).mp z
            have qq := ih (i + 1) (by omega) (fun i' hi' => by
              by_cases hh : i' = i
              · rw [hh, heq, decide_eq_true hs2]
              · exact ht i' (by omega))
            rw [sDx_s, sDy_s, ← iI_add, ← iI_add, ← nI_1] at qq
            exact qq
  have dir : ∀ (pl : Nat), pl < sPl g → ((List.range 4).any (fun d => sRay g p s pl d) = true → sRow g p s = true) → ((List.range 4).any (fun d => sRay g p s pl d) = false → zQ G 13 (n + 1) post 168 [some (.ref 0), some (.int (nI p)), some (.int (nI s)), some (.int (nI pl)), none, none, none, none, none, none] [] I L (zR1 q)) →
      ∀ j d : Nat, d + j = 4 → (∀ d', d' < d → sRay g p s pl d' = false) → zQ G 13 (n + 1) post 13 [some (.ref 0), some (.int (nI p)), some (.int (nI s)), some (.int (nI pl)), some (.int (nI d)), none, none, none, none, none] [] I L (zR1 q) := by
    intro pl hpl9 hyes hno j
    induction j with
    | zero =>
      intro d hd hf
      refine b13_13 (pk_le 4 d (fun _ => ?_) (fun z => absurd z (by omega)) rfl rfl (by omega) (by omega))
      refine zP_lv ?_ (hno ?_)
      · exact ⟨rfl, rfl, rfl, rfl, trivial⟩
      · refine List.any_eq_false.mpr fun d' hd' => ?_
        rw [hf d' (by have := List.mem_range.mp hd'; omega)]
        exact Bool.false_ne_true
    | succ j ih =>
      intro d hd hf
      have after : ∀ dx dy : Int32, dx = iI (sDx d) → dy = iI (sDy d) → zQ G 13 (n + 1) post 52 [some (.ref 0), some (.int (nI p)), some (.int (nI s)), some (.int (nI pl)), some (.int (nI d)), some (.int dx), none, none, none, none] [.int dy] I L (zR1 q) := by
        intro dx dy hdx hdy
        refine b13_52 ?_
        have w0 : ¬ I 0 1 = 0 := by rw [e1]; exact nI_ne0 (by omega) (by omega)
        refine And.intro w0 (And.intro w0 ?_)
        have ex : nI pl - nI pl / I 0 1 * I 0 1 = iI (sX g pl d 0) := by
          rw [e1, pk_rem (by omega) (by omega) (by omega), ← iI_n]
          congr 1
          unfold sX
          omega
        have ey : nI pl / I 0 1 = iI (sY g pl d 0) := by
          rw [e1, pk_div (by omega) (by omega) (by omega), ← iI_n]
          congr 1
          unfold sY
          omega
        have qq := ray pl d hpl9 (fun i hi => b13_151 (by
          show (¬ nI i = I 0 3 → _) ∧ (nI i = I 0 3 → _)
          rw [e3]
          rcases hi with ⟨hi, hr⟩ | ⟨hi, hr⟩
          · refine ⟨fun z => absurd (by rw [hi]) z, fun _ => And.intro rfl ?_⟩
            rw [hyes (List.any_eq_true.mpr ⟨d, List.mem_range.mpr (by omega), hr⟩)] at h
            exact h
          · refine ⟨fun _ => b13_162 ?_, fun z => absurd ((nI_eq (by omega) (by omega)).mp z) (by omega)⟩
            have qq := ih (d + 1) (by omega) (fun d' hd' => by
              by_cases hh : d' = d
              · rw [hh, hr]
              · exact hf d' (by omega))
            rw [← nI_1] at qq
            exact zP_lv (by exact ⟨rfl, rfl, rfl, rfl, rfl, trivial⟩) qq)) (g 3) 0 (by omega) (fun i' hi' => absurd hi' (by omega))
        rw [← ex, ← ey, ← hdx, ← hdy] at qq
        exact qq
      have mid : ∀ dx : Int32, dx = iI (sDx d) → zQ G 13 (n + 1) post 30 [some (.ref 0), some (.int (nI p)), some (.int (nI s)), some (.int (nI pl)), some (.int (nI d)), none, none, none, none, none] [.int dx] I L (zR1 q) := by
        intro dx hdx
        refine b13_30 ((fun z : _ ∧ _ => And.intro z.2 z.1) (pk_eq d 0 (fun z => ?_) (fun z => ?_) rfl rfl (by omega) (by omega)))
        · exact after dx 0 hdx (by unfold sDy; rw [if_pos z]; rfl)
        · refine b13_41 ((fun z : _ ∧ _ => And.intro z.2 z.1) (pk_eq d 3 (fun z2 => ?_) (fun z2 => ?_) rfl rfl (by omega) (by omega)))
          · exact after dx (-1) hdx (by unfold sDy; rw [if_neg z, if_pos z2]; rfl)
          · exact b13_51 (after dx 1 hdx (by unfold sDy; rw [if_neg z, if_neg z2]; rfl))
      refine b13_13 (pk_le 4 d (fun z => absurd z (by omega)) (fun _ => ?_) rfl rfl (by omega) (by omega))
      refine (fun z : _ ∧ _ => And.intro z.2 z.1) (pk_eq d 1 (fun z => ?_) (fun z => ?_) rfl rfl (by omega) (by omega))
      · exact mid 0 (by unfold sDx; rw [if_pos z]; rfl)
      · exact b13_29 (mid 1 (by unfold sDx; rw [if_neg z]; rfl))
  have pls : ∀ j pl : Nat, pl + j = sPl g → (∀ pl', pl' < pl → (List.range 4).any (fun d => sRay g p s pl' d) = false) → zQ G 13 (n + 1) post 2 [some (.ref 0), some (.int (nI p)), some (.int (nI s)), some (.int (nI pl)), none, none, none, none, none, none] [] I L (zR1 q) := by
    intro j
    induction j with
    | zero =>
      intro pl hh hf
      refine b13_2 (c_places hg (pk_le (sPl g) pl (fun _ => b13_174 (And.intro rfl ?_)) (fun z => absurd z (by omega)) rfl rfl (by omega) (by omega)))
      rw [show sRow g p s = false from List.any_eq_false.mpr fun pl' hpl' => by rw [hf pl' (by have := List.mem_range.mp hpl'; omega)]; exact Bool.false_ne_true] at h
      exact h
    | succ j ih =>
      intro pl hh hf
      refine b13_2 (c_places hg (pk_le (sPl g) pl (fun z => absurd z (by omega)) (fun _ => ?_) rfl rfl (by omega) (by omega)))
      refine dir pl (by omega) (fun z => List.any_eq_true.mpr ⟨pl, List.mem_range.mpr (by omega), z⟩) (fun z => b13_168 ?_) 4 0 (by omega) (fun d' hd' => absurd hd' (by omega))
      have qq := ih (pl + 1) (by omega) (fun pl' hpl' => by
        by_cases hh : pl' = pl
        · rw [hh, z]
        · exact hf pl' (by omega))
      rw [← nI_1] at qq
      exact qq
  exact zin0 rfl rfl rfl (b13_0 (pls (sPl g) 0 (by omega) (fun _ hx => absurd hx (by omega))))
end
