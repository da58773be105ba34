-- ===== the law's loop =====
theorem l_slots : zsl zNN + 4000 ≤ 7293034 := Nat.le_of_ble_eq_true (by decide +kernel)
section
variable {p : Program} {l : Launch} {e : Env} {s : State} {m : MethodId} {below : List Frame} {meth : Method} {cd : Code} {bA Ls : Nat} {xs : Nat → Int32} {D : va_G} {dty : FieldType → ClassId} {ts : Nat → Nat}
set_option maxHeartbeats 4000000 in
theorem law_loop (hL : Ls ≤ 2560) (C0 : lw_At p s m meth cd bA Ls xs) (hT : zTa D dty s.heap.size ts true 0 s) (hE : lEx (fun q => s.heap.size ≤ q) s) (hlf : l.stackTraces = false) : ∀ (n i k t : Nat) (I : zI) (L : zL) (q0 : zq) (v : Int64) (H : Heap) (locs : List Loc) (ls : Array Slot), i = 5 * k → i ≤ Ls → Ls + 1 ≤ i + n → t ≤ 101 * k → (∃ (g : zg) (c : sC) (fr : Nat → Nat) (nr : Nat) (rl : zrl) (ru : Option Nat) (nf : Nat) (fo : Nat → zfo) (en : Nat → Int32) (tx : Nat → Nat) (tn : Nat) (kp : Nat → Bool) (kc : Nat → sC) (wa : List zwt) (ro : List Int64), wB g c fr nr rl ru nf fo en tx tn kp kc wa ro t I L) →
    va_P D zCl (zws dty s.heap.size ts zNN I L (zR1 q0)) H → va_P D zCl (lOut dty s.heap.size v) H → va_S (lA s) s.heap H locs → lv_has ls 8 (lLv s ts bA i) → W p l e room_1 s m #[.ref bA] below meth cd H locs (172 + k) (zsl zNN + 1 + 6 * k) (lw_Z below #[.ref bA] s) (F0 m 23 ls []) := by
  obtain ⟨hx, hb, hr, hml, hown, hts, hX, hbl, hlocks, hgv⟩ := id C0
  have hbA : ¬ lA s bA := fun z => absurd (lA_ge z) (Nat.not_le.mpr hbl)
  have hsz := l_slots
  intro n
  induction n with
  | zero =>
    intro i k t I L q0 v H locs ls _ h1 h2
    exact absurd h2 (by omega)
  | succ n ih =>
    intro i k t I L q0 v H locs ls hik hi hin ht hB hP hO hS hl
    obtain ⟨g, c, fr, nr, rl, ru, nf, fo, en, tx, tn, kp, kc, wa, ro, hB⟩ := hB
    refine lv_iload hx hb (by decide +kernel) (lv_at hl 4 rfl) ?_
    refine lv_aload_n (k := 0) hx hb (by decide +kernel) rfl (lv_at hl 0 rfl) ?_
    refine va_slen hx hb hX hbl hbA hS (by decide +kernel) ?_
    refine lv_iconst (v := 5) hx hb (n := 5) (by decide +kernel) rfl ?_
    refine lv_isub hx hb (by decide +kernel) ?_
    have e5 : (nI Ls - nI 5).toInt = (Ls : Int) - (5 : Nat) := pk_sub_toInt (by omega) (by decide)
    have ei : (nI i).toInt = (i : Int) := nI_toInt (by omega)
    refine lv_icmp_gt (tgt := 1338) (off := 1309) hx hb (by decide +kernel) (by decide) (fun c_0 => ?_) (fun c_0 => ?_)
    · refine lv_iconst (v := 1) hx hb (n := 1) (by decide +kernel) rfl ?_
      refine va_forget (fun q hq => lA_ge (hS.2.2 q hq)) ?_
      refine W.widen (k := 601024) (n := 7293034) (by omega) (by omega) ?_
      exact lw_ret hx hb hr hlocks (by decide +kernel)
    · have hi5 : i + 5 ≤ Ls := by
        have c_0 : ¬ nI Ls - nI 5 < nI i := c_0
        rw [Int32.lt_iff_toInt_lt, e5, ei] at c_0
        omega
      have ht2 : t < 2 ^ 29 := by omega
      have hcl : 172 + k + 1 ≤ room_1.cells := by show _ ≤ 601024; omega
      have hsl : zsl zNN + 1 + 6 * k + 6 ≤ room_1.slots := by show _ ≤ 7293034; omega
      have hcl0 : 172 + k ≤ room_1.cells := Nat.le_of_succ_le hcl
      have hsl0 : zsl zNN + 1 + 6 * k ≤ room_1.slots := Nat.le_trans (Nat.le_add_right _ 6) hsl
      have next : ∀ (I' : zI) (L' : zL) (q' : zq) (v' : Int64) (H' : Heap) (locs' : List Loc) (ls' : Array Slot), wE t I' L' → va_P D zCl (zws dty s.heap.size ts zNN I' L' (zR1 q')) H' → va_P D zCl (lOut dty s.heap.size v') H' → va_S (lA s) s.heap H' locs' → lv_has ls' 8 (lLv s ts bA i) → W p l e room_1 s m #[.ref bA] below meth cd H' locs' (172 + k + 1) (zsl zNN + 1 + 6 * k + 6) (lw_Z below #[.ref bA] s) (F0 m 1332 ls' []) := by
        intro I' L' q' v' H' locs' ls' hW hP' hO' hS' hl'
        obtain ⟨g, c, fr, nr, rl, ru, nf, fo, en, tx, tn, kp, kc, wa, ro, t', ht', hB'⟩ := hW
        refine lv_iinc (n := 5) (v := nI (i + 5)) (k := 4) (lv' := [(4, .int (nI (i + 5))), (0, .ref bA), (1, .ref (zad s.heap.size ts 40)), (2, .ref (zad s.heap.size ts 0)), (3, .ref (s.heap.size + 171))]) hx hb (by decide +kernel) hl' rfl (nI_add i 5) (by decide) rfl (fun ls2 hl2 => ?_)
        refine lv_goto (tgt := 23) (off := -1312) hx hb (by decide +kernel) (by decide) ?_
        refine W.cs (cells' := 172 + (k + 1)) (slots' := zsl zNN + 1 + 6 * (k + 1)) (by omega) (by omega) ?_
        exact ih (i + 5) (k + 1) t' I' L' q' v' H' locs' ls2 (by omega) (by omega) (by omega) (by omega) ⟨g, c, fr, nr, rl, ru, nf, fo, en, tx, tn, kp, kc, wa, ro, hB'⟩ hP' hO' hS' (lv_sub hl2 [1, 2, 3, 4, 0] rfl)
      have nx : lNext p l e s m below meth cd bA D dty ts (172 + k) (zsl zNN + 1 + 6 * k) (lw_Z below #[.ref bA] s) ls t v := fun I' L' q' H' locs' hE' hP' hO' hS' => W.widen (k := 172 + k + 1) (n := zsl zNN + 1 + 6 * k + 6) (by omega) (by omega) (next I' L' q' v H' locs' ls hE' hP' hO' hS' hl)
      refine lv_aload_n (k := 0) hx hb (by decide +kernel) rfl (lv_at hl 0 rfl) ?_
      refine lv_iload hx hb (by decide +kernel) (lv_at hl 4 rfl) ?_
      refine va_sld hx hb hX hbl hbA hS (vp_in_nI (by omega) (by omega)) (by decide +kernel) ?_
      refine lv_bipush (v := 63) hx hb (n := 63) (by decide +kernel) rfl ?_
      refine lv_iand hx hb (by decide +kernel) ?_
      obtain ⟨j, hj, ej⟩ := l_and63 (xs (nI i).toNatClampNeg)
      rw [ej]
      have hls := hl.1
      have h0 := lv_at hl 0 rfl
      have h1 := lv_at hl 1 rfl
      have h2 := lv_at hl 2 rfl
      have h4 := lv_at hl 4 rfl
      have d39 : decode code 39 = .ok (.tableswitch 1293 0 37 #[165, 190, 215, 228, 241, 254, 279, 320, 357, 418, 443, 468, 493, 518, 543, 556, 581, 618, 643, 692, 741, 766, 791, 828, 865, 890, 927, 940, 965, 990, 1039, 1076, 1101, 1126, 1151, 1212, 1225, 1238], 165) := by decide +kernel
      by_cases h38 : 38 ≤ j
      · refine lv_tableOut (tgt := 1332) hx hb d39 (Or.inr (by rw [nI_toInt (by omega)]; omega)) (by decide) ?_
        exact nx I L q0 H locs ⟨g, c, fr, nr, rl, ru, nf, fo, en, tx, tn, kp, kc, wa, ro, t, by omega, hB⟩ hP hO hS
      match j, h38 with
      | 0, _ => exact lv_tableIn (off := 165) (tgt := 204) hx hb d39 (by decide) (by decide) rfl (by decide) (law_sign C0 hT hB ht2 hP hO hS hls h0 h1 h2 h4 hi5 hL hcl0 hsl0 nx)
      | 1, _ => exact lv_tableIn (off := 190) (tgt := 229) hx hb d39 (by decide) (by decide) rfl (by decide) (law_end C0 hT hB ht2 hP hO hS hls h0 h1 h2 h4 hi5 hL hcl0 hsl0 nx)
      | 2, _ => exact lv_tableIn (off := 215) (tgt := 254) hx hb d39 (by decide) (by decide) rfl (by decide) (law_game C0 hT hB ht2 hP hO hS hls h0 h1 h2 h4 hi5 hL hcl0 hsl0 nx)
      | 3, _ => exact lv_tableIn (off := 228) (tgt := 267) hx hb d39 (by decide) (by decide) rfl (by decide) (law_rule C0 hT hB ht2 hP hO hS hls h0 h1 h2 h4 hi5 hL hcl0 hsl0 nx)
      | 4, _ => exact lv_tableIn (off := 241) (tgt := 280) hx hb d39 (by decide) (by decide) rfl (by decide) (law_foe C0 hT hB ht2 hP hO hS hls h0 h1 h2 h4 hi5 hL hcl0 hsl0 nx)
      | 5, _ => exact lv_tableIn (off := 254) (tgt := 293) hx hb d39 (by decide) (by decide) rfl (by decide) (law_side C0 hT hB ht2 hP hO hS hls h0 h1 h2 h4 hi5 hL hcl0 hsl0 nx)
      | 6, _ => exact lv_tableIn (off := 279) (tgt := 318) hx hb d39 (by decide) (by decide) rfl (by decide) (law_likeness C0 hT hB ht2 hP hO hS hls h0 h1 h2 h4 hi5 hL hcl0 hsl0 nx)
      | 7, _ => exact lv_tableIn (off := 320) (tgt := 359) hx hb d39 (by decide) (by decide) rfl (by decide) (law_fresh C0 hT hB ht2 hP hO hS hls h0 h1 h2 h4 hi5 hL hcl0 hsl0 nx)
      | 8, _ => exact lv_tableIn (off := 357) (tgt := 396) hx hb d39 (by decide) (by decide) rfl (by decide) (law_sheet C0 hT hB ht2 hP hO hS hls h0 h1 h2 h4 hi5 hL hcl0 hsl0 nx)
      | 9, _ => exact lv_tableIn (off := 418) (tgt := 457) hx hb d39 (by decide) (by decide) rfl (by decide) (law_pay C0 hT hB ht2 hP hO hS hls h0 h1 h2 h4 hi5 hL hcl0 hsl0 nx)
      | 10, _ => exact lv_tableIn (off := 443) (tgt := 482) hx hb d39 (by decide) (by decide) rfl (by decide) (law_seed C0 hT hB ht2 hP hO hS hls h0 h1 h2 h4 hi5 hL hcl0 hsl0 nx)
      | 11, _ => exact lv_tableIn (off := 468) (tgt := 507) hx hb d39 (by decide) (by decide) rfl (by decide) (law_like C0 hT hB ht2 hP hO hS hls h0 h1 h2 h4 hi5 hL hcl0 hsl0 nx)
      | 12, _ => exact lv_tableIn (off := 493) (tgt := 532) hx hb d39 (by decide) (by decide) rfl (by decide) (law_value C0 hT hB ht2 hP hO hS hls h0 h1 h2 h4 hi5 hL hcl0 hsl0 nx)
      | 13, _ => exact lv_tableIn (off := 518) (tgt := 557) hx hb d39 (by decide) (by decide) rfl (by decide) (law_state C0 hT hB ht2 hP hO hS hls h0 h1 h2 h4 hi5 hL hcl0 hsl0 nx)
      | 14, _ => exact lv_tableIn (off := 543) (tgt := 582) hx hb d39 (by decide) (by decide) rfl (by decide) (law_boxes C0 hT hB ht2 hP hO hS hls h0 h1 h2 h4 hi5 hL hcl0 hsl0 nx)
      | 15, _ => exact lv_tableIn (off := 556) (tgt := 595) hx hb d39 (by decide) (by decide) rfl (by decide) (law_shows C0 hT hB ht2 hP hO hS hls h0 h1 h2 h4 hi5 hL hcl0 hsl0 nx)
      | 16, _ => exact lv_tableIn (off := 581) (tgt := 620) hx hb d39 (by decide) (by decide) rfl (by decide) (law_beads C0 hT hB ht2 hP hO hS hls h0 h1 h2 h4 hi5 hL hcl0 hsl0 nx)
      | 17, _ => exact lv_tableIn (off := 618) (tgt := 657) hx hb d39 (by decide) (by decide) rfl (by decide) (law_open C0 hT hB ht2 hP hO hS hls h0 h1 h2 h4 hi5 hL hcl0 hsl0 nx)
      | 18, _ => exact lv_tableIn (off := 643) (tgt := 682) hx hb d39 (by decide) (by decide) rfl (by decide) (law_put C0 hT hB ht2 hP hO hS hls h0 h1 h2 h4 hi5 hL hcl0 hsl0 nx)
      | 19, _ => exact lv_tableIn (off := 692) (tgt := 731) hx hb d39 (by decide) (by decide) rfl (by decide) (law_out C0 hT hB ht2 hP hO hS hls h0 h1 h2 h4 hi5 hL hcl0 hsl0 nx)
      | 20, _ => exact lv_tableIn (off := 741) (tgt := 780) hx hb d39 (by decide) (by decide) rfl (by decide) (law_count C0 hT hB ht2 hP hO hS hls h0 h1 h2 h4 hi5 hL hcl0 hsl0 nx)
      | 21, _ => exact lv_tableIn (off := 766) (tgt := 805) hx hb d39 (by decide) (by decide) rfl (by decide) (law_play C0 hT hB ht2 hP hO hS hls h0 h1 h2 h4 hi5 hL hcl0 hsl0 nx)
      | 22, _ => exact lv_tableIn (off := 791) (tgt := 830) hx hb d39 (by decide) (by decide) rfl (by decide) (law_run C0 hT hB ht2 hP hO hS hls h0 h1 h2 h4 hi5 hL hcl0 hsl0 nx)
      | 23, _ => exact lv_tableIn (off := 828) (tgt := 867) hx hb d39 (by decide) (by decide) rfl (by decide) (law_come C0 hT hB ht2 hP hO hS hls h0 h1 h2 h4 hi5 hL hcl0 hsl0 nx)
      | 24, _ => exact lv_tableIn (off := 865) (tgt := 904) hx hb d39 (by decide) (by decide) rfl (by decide) (law_odds C0 hT hB ht2 hP hO hS hls h0 h1 h2 h4 hi5 hL hcl0 hsl0 nx)
      | 25, _ => exact lv_tableIn (off := 890) (tgt := 929) hx hb d39 (by decide) (by decide) rfl (by decide) (law_ways C0 hT hB ht2 hP hO hS hls h0 h1 h2 h4 hi5 hL hcl0 hsl0 nx)
      | 26, _ => exact lv_tableIn (off := 927) (tgt := 966) hx hb d39 (by decide) (by decide) rfl (by decide) (law_knows C0 hT hB ht2 hP hO hS hls h0 h1 h2 h4 hi5 hL hcl0 hsl0 nx)
      | 27, _ => exact lv_tableIn (off := 940) (tgt := 979) hx hb d39 (by decide) (by decide) rfl (by decide) (law_share C0 hT hB ht2 hP hO hS hls h0 h1 h2 h4 hi5 hL hcl0 hsl0 nx)
      | 28, _ => exact lv_tableIn (off := 965) (tgt := 1004) hx hb d39 (by decide) (by decide) rfl (by decide) (law_errs C0 hT hB ht2 hP hO hS hls h0 h1 h2 h4 hi5 hL hcl0 hsl0 nx)
      | 29, _ => exact lv_tableIn (off := 990) (tgt := 1029) hx hb d39 (by decide) (by decide) rfl (by decide) (law_teach C0 hT hB ht2 hP hO hS hls h0 h1 h2 h4 hi5 hL hcl0 hsl0 nx)
      | 30, _ => exact lv_tableIn (off := 1039) (tgt := 1078) hx hb d39 (by decide) (by decide) rfl (by decide) (law_few C0 hT hB ht2 hP hO hS hls h0 h1 h2 h4 hi5 hL hcl0 hsl0 nx)
      | 31, _ => exact lv_tableIn (off := 1076) (tgt := 1115) hx hb d39 (by decide) (by decide) rfl (by decide) (law_keep C0 hT hB ht2 hP hO hS hls h0 h1 h2 h4 hi5 hL hcl0 hsl0 nx)
      | 32, _ => exact lv_tableIn (off := 1101) (tgt := 1140) hx hb d39 (by decide) (by decide) rfl (by decide) (law_again C0 hT hB ht2 hP hO hS hls h0 h1 h2 h4 hi5 hL hcl0 hsl0 nx)
      | 33, _ => exact lv_tableIn (off := 1126) (tgt := 1165) hx hb d39 (by decide) (by decide) rfl (by decide) (law_join C0 hT hB ht2 hP hO hS hls h0 h1 h2 h4 hi5 hL hcl0 hsl0 nx)
      | 34, _ => exact lv_tableIn (off := 1151) (tgt := 1190) hx hb d39 (by decide) (by decide) rfl (by decide) (law_watch C0 hT hB ht2 hP hO hS hls h0 h1 h2 h4 hi5 hL hcl0 hsl0 nx)
      | 35, _ => exact lv_tableIn (off := 1212) (tgt := 1251) hx hb d39 (by decide) (by decide) rfl (by decide) (law_fits C0 hT hB ht2 hP hO hS hls h0 h1 h2 h4 hi5 hL hcl0 hsl0 nx)
      | 36, _ => exact lv_tableIn (off := 1225) (tgt := 1264) hx hb d39 (by decide) (by decide) rfl (by decide) (law_part C0 hT hB ht2 hP hO hS hls h0 h1 h2 h4 hi5 hL hcl0 hsl0 nx)
      | 37, _ => exact lv_tableIn (off := 1238) (tgt := 1277) hx hb d39 (by decide) (by decide) rfl (by decide) (law_row C0 hT hE hlf hB hP hO hS hl hi5 hL hcl hsl next)
      | j + 38, h => exact absurd (Nat.le_add_left 38 j) h
end
