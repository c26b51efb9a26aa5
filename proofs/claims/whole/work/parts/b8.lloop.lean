/-! the law's loop -/
section Zb8a
variable {Γ : zC} {κ : lX} {L : Nat} {xs : Nat → Int32}
theorem and63 (x : Int32) : ∃ j : Nat, j < 64 ∧ x &&& 63 = iz (j : Int) := by
  obtain ⟨j, hj, e⟩ := pk_andE x (m := 63) 6 (by decide)
  exact ⟨j, hj, by rw [e]; exact (Int32.ofInt_eq_ofNat).symm⟩
theorem l_next {n : Nat} {M : zM} (C : lH Γ κ L xs) (h : lJ Γ κ (iz ((n + 6 : Nat) : Int)) 18 [] M) : lJ Γ κ (iz (n : Int)) 1698 [] M := by
  obtain ⟨p, e', s, m, below, meth, c, b, cells, slots⟩ := κ
  obtain ⟨hA, hG, hs, hK, hL, hc1, hc2⟩ := C
  intro H locs ls hP hS hl
  refine lv_iinc (k := 0) (lv' := [(3, .int (iz ((n + 6 : Nat) : Int))), (2, .ref (Γ.2.2.2.1 (10, 0, 0))), (1, .ref (Γ.2.2.2.1 (9, 0, 0))), (0, .ref b)]) hA.1 hA.2.1 dLw_1698 hl rfl (show iz (n : Int) + Int32.ofInt 6 = iz ((n + 6 : Nat) : Int) by rw [show Int32.ofInt 6 = iz 6 from rfl, iz_add]; congr 1) (by omega) rfl (fun ls' hl' => ?_)
  exact lv_goto hA.1 hA.2.1 (tgt := 18) dLw_1701 rfl (h H locs ls' hP hS hl')
theorem l_end {n : Nat} {M : zM} (C : lH Γ κ L xs) : lJ Γ κ (iz (n : Int)) 1704 [] M := by
  obtain ⟨p, e', s, m, below, meth, c, b, cells, slots⟩ := κ
  obtain ⟨hA, hG, hs, hK, hL, hc1, hc2⟩ := C
  intro H locs ls hP hS hl
  refine lv_iconst hA.1 hA.2.1 (v := 1) dLw_1704 rfl ?_
  refine va_forget (fun q hq => ?_) (W.widen hc1 hc2 (lw_ret hA.1 hA.2.1 hA.2.2.1 hA.2.2.2.2.2.2.2.2.1 dLw_1705))
  have := hS.2.2 q hq
  unfold zA zb at this
  rw [hs] at this
  exact this
theorem l_head {n : Nat} {M : zM} (hst : zSt Γ) (hsr : zSr Γ) (C : lH Γ κ L xs) (hn : n ≤ L + 6) (hI : Inv M) (nx0 : n + 6 ≤ L → ∀ M2, Inv M2 → lJ Γ κ (iz ((n + 6 : Nat) : Int)) 18 [] M2) : lJ Γ κ (iz (n : Int)) 18 [] M := by
  have C0 := C
  obtain ⟨p, e', s, m, below, meth, c, b, cells, slots⟩ := κ
  obtain ⟨hA, hG, hs, hK, hL, hc1, hc2⟩ := C
  have C := C0
  intro H locs ls hP hS hl
  have hbA := l_bA hA hs
  refine lv_iload_n hA.1 hA.2.1 dLw_18 rfl (lv_at hl 0 rfl) ?_
  refine lv_aload_n hA.1 hA.2.1 dLw_19 rfl (lv_at hl 3 rfl) ?_
  refine va_slen hA.1 hA.2.1 hA.2.2.2.2.2.2.1 hA.2.2.2.2.2.2.2.1 hbA hS dLw_20 ?_
  refine lv_bipush hA.1 hA.2.1 (v := 6) dLw_21 (by decide) ?_
  refine lv_isub hA.1 hA.2.1 dLw_23 ?_
  rw [show Int32.ofNat L = iz (L : Int) from (Int32.ofInt_eq_ofNat).symm, show (6 : Int32) = iz 6 from rfl, iz_sub]
  refine lv_icmp_gt hA.1 hA.2.1 (tgt := 1704) dLw_24 rfl (fun _ => l_end C H locs ls hP hS hl) (fun q => ?_)
  rw [iz_lt (by omega) (by omega) (by omega) (by omega)] at q
  have hn6 : n + 6 ≤ L := by omega
  have nx : ∀ M2, Inv M2 → lJ Γ (p, e', s, m, below, meth, c, b, cells, slots) (iz (n : Int)) 1698 [] M2 := fun M2 h2 => l_next C (nx0 hn6 M2 h2)
  refine lv_aload_n hA.1 hA.2.1 dLw_27 rfl (lv_at hl 3 rfl) ?_
  refine lv_iload_n hA.1 hA.2.1 dLw_28 rfl (lv_at hl 0 rfl) ?_
  refine va_sld hA.1 hA.2.1 hA.2.2.2.2.2.2.1 hA.2.2.2.2.2.2.2.1 hbA hS (iz_inN (show n < L by omega) (by omega)) dLw_29 ?_
  refine lv_bipush hA.1 hA.2.1 (v := 63) dLw_30 (by decide) ?_
  refine lv_iand hA.1 hA.2.1 dLw_32 ?_
  obtain ⟨j, hj, ej⟩ : ∃ j : Nat, j < 64 ∧ xs (iz (n : Int)).toNatClampNeg &&& 63 = iz (j : Int) := and63 _
  rcases (by omega : j = 0 ∨ j = 1 ∨ j = 2 ∨ j = 3 ∨ j = 4 ∨ j = 5 ∨ j = 6 ∨ j = 7 ∨ j = 8 ∨ j = 9 ∨ j = 10 ∨ j = 11 ∨ j = 12 ∨ j = 13 ∨ j = 14 ∨ j = 15 ∨ j = 16 ∨ j = 17 ∨ j = 18 ∨ j = 19 ∨ j = 20 ∨ j = 21 ∨ j = 22 ∨ j = 23 ∨ j = 24 ∨ j = 25 ∨ j = 26 ∨ j = 27 ∨ j = 28 ∨ j = 29 ∨ j = 30 ∨ j = 31 ∨ j = 32 ∨ j = 33 ∨ j = 34 ∨ j = 35 ∨ j = 36 ∨ j = 37 ∨ j = 38 ∨ j = 39 ∨ j = 40 ∨ 41 ≤ j) with z | z | z | z | z | z | z | z | z | z | z | z | z | z | z | z | z | z | z | z | z | z | z | z | z | z | z | z | z | z | z | z | z | z | z | z | z | z | z | z | z | z
  · refine lv_tableIn hA.1 hA.2.1 (off := 179) (tgt := 212) dLw_33 (by rw [ej, iz_toInt (by omega) (by omega)]; omega) (by rw [ej, iz_toInt (by omega) (by omega)]; omega) (by rw [ej, iz_toInt (by omega) (by omega), z]; rfl) rfl ?_
    exact lc_feed C rfl hn6 hI nx H locs ls hP hS hl
  · refine lv_tableIn hA.1 hA.2.1 (off := 242) (tgt := 275) dLw_33 (by rw [ej, iz_toInt (by omega) (by omega)]; omega) (by rw [ej, iz_toInt (by omega) (by omega)]; omega) (by rw [ej, iz_toInt (by omega) (by omega), z]; rfl) rfl ?_
    exact lc_end C rfl hn6 hI nx H locs ls hP hS hl
  · refine lv_tableIn hA.1 hA.2.1 (off := 265) (tgt := 298) dLw_33 (by rw [ej, iz_toInt (by omega) (by omega)]; omega) (by rw [ej, iz_toInt (by omega) (by omega)]; omega) (by rw [ej, iz_toInt (by omega) (by omega), z]; rfl) rfl ?_
    exact lc_sale hsr C rfl hn6 hI nx H locs ls hP hS hl
  · refine lv_tableIn hA.1 hA.2.1 (off := 288) (tgt := 321) dLw_33 (by rw [ej, iz_toInt (by omega) (by omega)]; omega) (by rw [ej, iz_toInt (by omega) (by omega)]; omega) (by rw [ej, iz_toInt (by omega) (by omega), z]; rfl) rfl ?_
    exact lc_fault C rfl hn6 hI nx H locs ls hP hS hl
  · refine lv_tableIn hA.1 hA.2.1 (off := 311) (tgt := 344) dLw_33 (by rw [ej, iz_toInt (by omega) (by omega)]; omega) (by rw [ej, iz_toInt (by omega) (by omega)]; omega) (by rw [ej, iz_toInt (by omega) (by omega), z]; rfl) rfl ?_
    exact lc_about C rfl hn6 hI nx H locs ls hP hS hl
  · refine lv_tableIn hA.1 hA.2.1 (off := 344) (tgt := 377) dLw_33 (by rw [ej, iz_toInt (by omega) (by omega)]; omega) (by rw [ej, iz_toInt (by omega) (by omega)]; omega) (by rw [ej, iz_toInt (by omega) (by omega), z]; rfl) rfl ?_
    exact lc_worth C rfl hn6 hI nx H locs ls hP hS hl
  · refine lv_tableIn hA.1 hA.2.1 (off := 387) (tgt := 420) dLw_33 (by rw [ej, iz_toInt (by omega) (by omega)]; omega) (by rw [ej, iz_toInt (by omega) (by omega)]; omega) (by rw [ej, iz_toInt (by omega) (by omega), z]; rfl) rfl ?_
    exact lc_bid C rfl hn6 hI nx H locs ls hP hS hl
  · refine lv_tableIn hA.1 hA.2.1 (off := 430) (tgt := 463) dLw_33 (by rw [ej, iz_toInt (by omega) (by omega)]; omega) (by rw [ej, iz_toInt (by omega) (by omega)]; omega) (by rw [ej, iz_toInt (by omega) (by omega), z]; rfl) rfl ?_
    exact lc_rule C rfl hn6 hI nx H locs ls hP hS hl
  · refine lv_tableIn hA.1 hA.2.1 (off := 473) (tgt := 506) dLw_33 (by rw [ej, iz_toInt (by omega) (by omega)]; omega) (by rw [ej, iz_toInt (by omega) (by omega)]; omega) (by rw [ej, iz_toInt (by omega) (by omega), z]; rfl) rfl ?_
    exact lc_stands C rfl hn6 hI nx H locs ls hP hS hl
  · refine lv_tableIn hA.1 hA.2.1 (off := 506) (tgt := 539) dLw_33 (by rw [ej, iz_toInt (by omega) (by omega)]; omega) (by rw [ej, iz_toInt (by omega) (by omega)]; omega) (by rw [ej, iz_toInt (by omega) (by omega), z]; rfl) rfl ?_
    exact lc_pay C rfl hn6 hI nx H locs ls hP hS hl
  · refine lv_tableIn hA.1 hA.2.1 (off := 565) (tgt := 598) dLw_33 (by rw [ej, iz_toInt (by omega) (by omega)]; omega) (by rw [ej, iz_toInt (by omega) (by omega)]; omega) (by rw [ej, iz_toInt (by omega) (by omega), z]; rfl) rfl ?_
    exact lc_take C rfl hn6 hI nx H locs ls hP hS hl
  · refine lv_tableIn hA.1 hA.2.1 (off := 588) (tgt := 621) dLw_33 (by rw [ej, iz_toInt (by omega) (by omega)]; omega) (by rw [ej, iz_toInt (by omega) (by omega)]; omega) (by rw [ej, iz_toInt (by omega) (by omega), z]; rfl) rfl ?_
    exact lc_rather C rfl hn6 hI nx H locs ls hP hS hl
  · refine lv_tableIn hA.1 hA.2.1 (off := 637) (tgt := 670) dLw_33 (by rw [ej, iz_toInt (by omega) (by omega)]; omega) (by rw [ej, iz_toInt (by omega) (by omega)]; omega) (by rw [ej, iz_toInt (by omega) (by omega), z]; rfl) rfl ?_
    exact lc_reply C rfl hn6 hI nx H locs ls hP hS hl
  · refine lv_tableIn hA.1 hA.2.1 (off := 670) (tgt := 703) dLw_33 (by rw [ej, iz_toInt (by omega) (by omega)]; omega) (by rw [ej, iz_toInt (by omega) (by omega)]; omega) (by rw [ej, iz_toInt (by omega) (by omega), z]; rfl) rfl ?_
    exact lc_restless C rfl hn6 hI nx H locs ls hP hS hl
  · refine lv_tableIn hA.1 hA.2.1 (off := 693) (tgt := 726) dLw_33 (by rw [ej, iz_toInt (by omega) (by omega)]; omega) (by rw [ej, iz_toInt (by omega) (by omega)]; omega) (by rw [ej, iz_toInt (by omega) (by omega), z]; rfl) rfl ?_
    exact lc_replies C rfl hn6 hI nx H locs ls hP hS hl
  · refine lv_tableIn hA.1 hA.2.1 (off := 726) (tgt := 759) dLw_33 (by rw [ej, iz_toInt (by omega) (by omega)]; omega) (by rw [ej, iz_toInt (by omega) (by omega)]; omega) (by rw [ej, iz_toInt (by omega) (by omega), z]; rfl) rfl ?_
    exact lc_rests C rfl hn6 hI nx H locs ls hP hS hl
  · refine lv_tableIn hA.1 hA.2.1 (off := 759) (tgt := 792) dLw_33 (by rw [ej, iz_toInt (by omega) (by omega)]; omega) (by rw [ej, iz_toInt (by omega) (by omega)]; omega) (by rw [ej, iz_toInt (by omega) (by omega), z]; rfl) rfl ?_
    exact lc_rest C rfl hn6 hI nx H locs ls hP hS hl
  · refine lv_tableIn hA.1 hA.2.1 (off := 812) (tgt := 845) dLw_33 (by rw [ej, iz_toInt (by omega) (by omega)]; omega) (by rw [ej, iz_toInt (by omega) (by omega)]; omega) (by rw [ej, iz_toInt (by omega) (by omega), z]; rfl) rfl ?_
    exact lc_best C rfl hn6 hI nx H locs ls hP hS hl
  · refine lv_tableIn hA.1 hA.2.1 (off := 845) (tgt := 878) dLw_33 (by rw [ej, iz_toInt (by omega) (by omega)]; omega) (by rw [ej, iz_toInt (by omega) (by omega)]; omega) (by rw [ej, iz_toInt (by omega) (by omega), z]; rfl) rfl ?_
    exact lc_even C rfl hn6 hI nx H locs ls hP hS hl
  · refine lv_tableIn hA.1 hA.2.1 (off := 904) (tgt := 937) dLw_33 (by rw [ej, iz_toInt (by omega) (by omega)]; omega) (by rw [ej, iz_toInt (by omega) (by omega)]; omega) (by rw [ej, iz_toInt (by omega) (by omega), z]; rfl) rfl ?_
    exact lc_truly C rfl hn6 hI nx H locs ls hP hS hl
  · refine lv_tableIn hA.1 hA.2.1 (off := 937) (tgt := 970) dLw_33 (by rw [ej, iz_toInt (by omega) (by omega)]; omega) (by rw [ej, iz_toInt (by omega) (by omega)]; omega) (by rw [ej, iz_toInt (by omega) (by omega), z]; rfl) rfl ?_
    exact lc_price C rfl hn6 hI nx H locs ls hP hS hl
  · refine lv_tableIn hA.1 hA.2.1 (off := 980) (tgt := 1013) dLw_33 (by rw [ej, iz_toInt (by omega) (by omega)]; omega) (by rw [ej, iz_toInt (by omega) (by omega)]; omega) (by rw [ej, iz_toInt (by omega) (by omega), z]; rfl) rfl ?_
    exact lc_judged C rfl hn6 hI nx H locs ls hP hS hl
  · refine lv_tableIn hA.1 hA.2.1 (off := 1003) (tgt := 1036) dLw_33 (by rw [ej, iz_toInt (by omega) (by omega)]; omega) (by rw [ej, iz_toInt (by omega) (by omega)]; omega) (by rw [ej, iz_toInt (by omega) (by omega), z]; rfl) rfl ?_
    exact lc_parts C rfl hn6 hI nx H locs ls hP hS hl
  · refine lv_tableIn hA.1 hA.2.1 (off := 1027) (tgt := 1060) dLw_33 (by rw [ej, iz_toInt (by omega) (by omega)]; omega) (by rw [ej, iz_toInt (by omega) (by omega)]; omega) (by rw [ej, iz_toInt (by omega) (by omega), z]; rfl) rfl ?_
    exact lc_taken C rfl hn6 hI nx H locs ls hP hS hl
  · refine lv_tableIn hA.1 hA.2.1 (off := 1061) (tgt := 1094) dLw_33 (by rw [ej, iz_toInt (by omega) (by omega)]; omega) (by rw [ej, iz_toInt (by omega) (by omega)]; omega) (by rw [ej, iz_toInt (by omega) (by omega), z]; rfl) rfl ?_
    exact lc_high C rfl hn6 hI nx H locs ls hP hS hl
  · refine lv_tableIn hA.1 hA.2.1 (off := 1084) (tgt := 1117) dLw_33 (by rw [ej, iz_toInt (by omega) (by omega)]; omega) (by rw [ej, iz_toInt (by omega) (by omega)]; omega) (by rw [ej, iz_toInt (by omega) (by omega), z]; rfl) rfl ?_
    exact lc_day C rfl hn6 hI nx H locs ls hP hS hl
  · refine lv_tableIn hA.1 hA.2.1 (off := 1127) (tgt := 1160) dLw_33 (by rw [ej, iz_toInt (by omega) (by omega)]; omega) (by rw [ej, iz_toInt (by omega) (by omega)]; omega) (by rw [ej, iz_toInt (by omega) (by omega), z]; rfl) rfl ?_
    exact lc_spent C rfl hn6 hI nx H locs ls hP hS hl
  · refine lv_tableIn hA.1 hA.2.1 (off := 1160) (tgt := 1193) dLw_33 (by rw [ej, iz_toInt (by omega) (by omega)]; omega) (by rw [ej, iz_toInt (by omega) (by omega)]; omega) (by rw [ej, iz_toInt (by omega) (by omega), z]; rfl) rfl ?_
    exact lc_beside C rfl hn6 hI nx H locs ls hP hS hl
  · refine lv_tableIn hA.1 hA.2.1 (off := 1193) (tgt := 1226) dLw_33 (by rw [ej, iz_toInt (by omega) (by omega)]; omega) (by rw [ej, iz_toInt (by omega) (by omega)]; omega) (by rw [ej, iz_toInt (by omega) (by omega), z]; rfl) rfl ?_
    exact lc_come C rfl hn6 hI nx H locs ls hP hS hl
  · refine lv_tableIn hA.1 hA.2.1 (off := 1236) (tgt := 1269) dLw_33 (by rw [ej, iz_toInt (by omega) (by omega)]; omega) (by rw [ej, iz_toInt (by omega) (by omega)]; omega) (by rw [ej, iz_toInt (by omega) (by omega), z]; rfl) rfl ?_
    exact lc_spared C rfl hn6 hI nx H locs ls hP hS hl
  · refine lv_tableIn hA.1 hA.2.1 (off := 1269) (tgt := 1302) dLw_33 (by rw [ej, iz_toInt (by omega) (by omega)]; omega) (by rw [ej, iz_toInt (by omega) (by omega)]; omega) (by rw [ej, iz_toInt (by omega) (by omega), z]; rfl) rfl ?_
    exact lc_breaks C rfl hn6 hI nx H locs ls hP hS hl
  · refine lv_tableIn hA.1 hA.2.1 (off := 1292) (tgt := 1325) dLw_33 (by rw [ej, iz_toInt (by omega) (by omega)]; omega) (by rw [ej, iz_toInt (by omega) (by omega)]; omega) (by rw [ej, iz_toInt (by omega) (by omega), z]; rfl) rfl ?_
    exact lc_mark C rfl hn6 hI nx H locs ls hP hS hl
  · refine lv_tableIn hA.1 hA.2.1 (off := 1325) (tgt := 1358) dLw_33 (by rw [ej, iz_toInt (by omega) (by omega)]; omega) (by rw [ej, iz_toInt (by omega) (by omega)]; omega) (by rw [ej, iz_toInt (by omega) (by omega), z]; rfl) rfl ?_
    exact lc_without C rfl hn6 hI nx H locs ls hP hS hl
  · refine lv_tableIn hA.1 hA.2.1 (off := 1358) (tgt := 1391) dLw_33 (by rw [ej, iz_toInt (by omega) (by omega)]; omega) (by rw [ej, iz_toInt (by omega) (by omega)]; omega) (by rw [ej, iz_toInt (by omega) (by omega), z]; rfl) rfl ?_
    exact lc_guess C rfl hn6 hI nx H locs ls hP hS hl
  · refine lv_tableIn hA.1 hA.2.1 (off := 1418) (tgt := 1451) dLw_33 (by rw [ej, iz_toInt (by omega) (by omega)]; omega) (by rw [ej, iz_toInt (by omega) (by omega)]; omega) (by rw [ej, iz_toInt (by omega) (by omega), z]; rfl) rfl ?_
    exact lc_pair C rfl hn6 hI nx H locs ls hP hS hl
  · refine lv_tableIn hA.1 hA.2.1 (off := 1471) (tgt := 1504) dLw_33 (by rw [ej, iz_toInt (by omega) (by omega)]; omega) (by rw [ej, iz_toInt (by omega) (by omega)]; omega) (by rw [ej, iz_toInt (by omega) (by omega), z]; rfl) rfl ?_
    exact lc_tells C rfl hn6 hI nx H locs ls hP hS hl
  · refine lv_tableIn hA.1 hA.2.1 (off := 1540) (tgt := 1573) dLw_33 (by rw [ej, iz_toInt (by omega) (by omega)]; omega) (by rw [ej, iz_toInt (by omega) (by omega)]; omega) (by rw [ej, iz_toInt (by omega) (by omega), z]; rfl) rfl ?_
    exact lc_climb hst C rfl hn6 hI nx H locs ls hP hS hl
  · refine lv_tableIn hA.1 hA.2.1 (off := 1583) (tgt := 1616) dLw_33 (by rw [ej, iz_toInt (by omega) (by omega)]; omega) (by rw [ej, iz_toInt (by omega) (by omega)]; omega) (by rw [ej, iz_toInt (by omega) (by omega), z]; rfl) rfl ?_
    exact lc_climbs hst C rfl hn6 hI nx H locs ls hP hS hl
  · refine lv_tableIn hA.1 hA.2.1 (off := 1606) (tgt := 1639) dLw_33 (by rw [ej, iz_toInt (by omega) (by omega)]; omega) (by rw [ej, iz_toInt (by omega) (by omega)]; omega) (by rw [ej, iz_toInt (by omega) (by omega), z]; rfl) rfl ?_
    exact lc_count C rfl hn6 hI nx H locs ls hP hS hl
  · refine lv_tableIn hA.1 hA.2.1 (off := 1619) (tgt := 1652) dLw_33 (by rw [ej, iz_toInt (by omega) (by omega)]; omega) (by rw [ej, iz_toInt (by omega) (by omega)]; omega) (by rw [ej, iz_toInt (by omega) (by omega), z]; rfl) rfl ?_
    exact lc_image C rfl hn6 hI nx H locs ls hP hS hl
  · refine lv_tableIn hA.1 hA.2.1 (off := 1642) (tgt := 1675) dLw_33 (by rw [ej, iz_toInt (by omega) (by omega)]; omega) (by rw [ej, iz_toInt (by omega) (by omega)]; omega) (by rw [ej, iz_toInt (by omega) (by omega), z]; rfl) rfl ?_
    exact lc_again C rfl hn6 hI nx H locs ls hP hS hl
  · refine lv_tableOut hA.1 hA.2.1 (tgt := 1698) dLw_33 (by rw [ej, iz_toInt (by omega) (by omega)]; omega) rfl ?_
    exact nx M hI H locs ls hP hS hl
end Zb8a
section Zb8
variable {Γ : zC} {κ : lX} {L : Nat} {xs : Nat → Int32}
theorem l_loop (hst : zSt Γ) (hsr : zSr Γ) (C : lH Γ κ L xs) : ∀ (d n : Nat) (M : zM), L + 6 - n ≤ d → n ≤ L + 6 → Inv M → lJ Γ κ (iz (n : Int)) 18 [] M := by
  intro d
  induction d with
  | zero =>
    intro n M hd hn hI
    exact l_head hst hsr C hn hI (fun hn6 M2 hI2 => by omega)
  | succ d ih =>
    intro n M hd hn hI
    exact l_head hst hsr C hn hI (fun hn6 M2 hI2 => ih (n + 6) M2 (by omega) (by omega) hI2)
end Zb8
