/-! the constructors, by program (ctors.py) -/
def kE8 (Γ : zC) (h : Nat) : Nat → va_E := kup (kcat (kup (kup (kcat (kup (kup (kcat (kup (kup (kup (kup (kup (kup (k0 8) 1 (.inl (Γ.2.2.1 3, 500, .inl (fun _ => 0)))) 0 (.inr (8, (zdf 8).set 0 (.ref (h + 1))))) 0 (.inr (8, ((zdf 8).set 0 (.ref (h + 1))).set 3 (.int (-1))))) 2 (.inl (Γ.2.2.1 4, 3, .inr (.inr (.inr (.inr (fun _ => none))))))) 0 (.inr (8, (((zdf 8).set 0 (.ref (h + 1))).set 3 (.int (-1))).set 5 (.ref (h + 2))))) 3 (.inr (7, zdf 7))) 3 (kE7 Γ (h + 3))) 2 (.inl (Γ.2.2.1 4, 3, .inr (.inr (.inr (.inr (va_up (fun _ => none) (0 : Int32).toNatClampNeg (some (h + 3))))))))) 16 (.inr (7, zdf 7))) 16 (kE7 Γ (h + 16))) 2 (.inl (Γ.2.2.1 4, 3, .inr (.inr (.inr (.inr (va_up (va_up (fun _ => none) (0 : Int32).toNatClampNeg (some (h + 3))) (1 : Int32).toNatClampNeg (some (h + 16))))))))) 29 (.inr (7, zdf 7))) 29 (kE7 Γ (h + 29))) 2 (.inl (Γ.2.2.1 4, 3, .inr (.inr (.inr (.inr (va_up (va_up (va_up (fun _ => none) (0 : Int32).toNatClampNeg (some (h + 3))) (1 : Int32).toNatClampNeg (some (h + 16))) (2 : Int32).toNatClampNeg (some (h + 29))))))))
set_option maxHeartbeats 8000000 in
theorem m_i8 (Γ : zC) (h : Nat) : Met Γ.1 (kIn 8) (Cond.code (kIn 8) prog_10_method_1_code 2 none :: WS) { frames := 2, cells := 41, slots := 1238, locals := 40 } (va_Pc [.ref h] (kPre Γ 8 h)) (kQc Γ h 42 (kE8 Γ h)) (42 - 1) 1238 (fun q => h ≤ q) := by
  refine k_met (by decide +kernel) (by decide) fun κ ls C hm hR hl hend => ?_
  refine k_al C (lv_at hl 0 rfl) (by decide +kernel : decode prog_10_method_1_code 0 = .ok (.aload_n 0, 1)) (pc' := 1) rfl ?_
  refine k_oi C hl.1 (zi1 32 (by decide +kernel) (by decide +kernel)) (by rw [hR]; decide) (by decide) (by decide +kernel : decode prog_10_method_1_code 1 = .ok (.invokespecial 3, 3)) (pc' := 4) rfl ?_
  refine k_al C (lv_at hl 0 rfl) (by decide +kernel : decode prog_10_method_1_code 4 = .ok (.aload_n 0, 1)) (pc' := 5) rfl ?_
  refine k_sp C (v := 500) (by decide +kernel : decode prog_10_method_1_code 5 = .ok (.sipush 500, 3)) (by decide) (pc' := 8) rfl ?_
  refine k_na C (t := 3) (N := 500) (ty := .byte) (a0 := (500, .inl (fun _ => 0))) rfl (zi1 145 (by decide +kernel) (by decide +kernel)) rfl (fun _ _ h9 => h9) (fun _ => rfl) ⟨by decide, by decide, by decide⟩ ⟨rfl, by rw [hR]; decide, by rw [hR]; decide⟩ (by decide +kernel : decode prog_10_method_1_code 8 = .ok (.newarray .byte, 2)) (pc' := 10) rfl (cells' := 1) rfl (slots' := 500) rfl (n' := 2) rfl ?_
  refine k_pF C (f := 0) hm (by decide) (by decide) rfl (by decide) (by decide +kernel) ⟨rfl, rfl, by simp [zdf_len]; decide⟩ ⟨rfl, by decide⟩ (by decide +kernel : decode prog_10_method_1_code 10 = .ok (.putfield 9, 3)) (pc' := 13) rfl ?_
  refine k_al C (lv_at hl 0 rfl) (by decide +kernel : decode prog_10_method_1_code 13 = .ok (.aload_n 0, 1)) (pc' := 14) rfl ?_
  refine k_ic C (v := (-1)) (by decide +kernel : decode prog_10_method_1_code 14 = .ok (.iconst (-1), 1)) (by decide) (pc' := 15) rfl ?_
  refine k_pu C (f := 3) (by decide) (by decide) rfl (by decide) (by decide +kernel) ⟨rfl, rfl, by simp [zdf_len]; decide⟩ ⟨rfl, by decide⟩ (by decide +kernel : decode prog_10_method_1_code 15 = .ok (.putfield 15, 3)) (pc' := 18) rfl ?_
  refine k_al C (lv_at hl 0 rfl) (by decide +kernel : decode prog_10_method_1_code 18 = .ok (.aload_n 0, 1)) (pc' := 19) rfl ?_
  refine k_ic C (v := 3) (by decide +kernel : decode prog_10_method_1_code 19 = .ok (.iconst 3, 1)) (by decide) (pc' := 20) rfl ?_
  refine k_nq C (c1 := 7) (t := 4) (N := 3) (fun _ h9 => h9.2.1) (zi1 33 (by decide +kernel) (by decide +kernel)) rfl ⟨by decide, by decide, by decide⟩ ⟨rfl, by rw [hR]; decide, by rw [hR]; decide⟩ (by decide +kernel : decode prog_10_method_1_code 20 = .ok (.anewarray 19, 3)) (pc' := 23) rfl (cells' := 2) rfl (slots' := 503) rfl (n' := 3) rfl ?_
  refine k_pF C (f := 5) hm (by decide) (by decide) rfl (by decide) (by decide +kernel) ⟨rfl, rfl, by simp [zdf_len]; decide⟩ ⟨rfl, by decide⟩ (by decide +kernel : decode prog_10_method_1_code 23 = .ok (.putfield 21, 3)) (pc' := 26) rfl ?_
  refine k_ic C (v := 0) (by decide +kernel : decode prog_10_method_1_code 26 = .ok (.iconst 0, 1)) (by decide) (pc' := 27) rfl ?_
  refine k_is C hl rfl (by decide +kernel : decode prog_10_method_1_code 27 = .ok (.istore_n 1, 1)) (pc' := 28) rfl ?_
  clear hl; intro ls hl
  refine k_il C (lv_at hl 0 rfl) (by decide +kernel : decode prog_10_method_1_code 28 = .ok (.iload_n 1, 1)) (pc' := 29) rfl ?_
  refine k_ic C (v := 3) (by decide +kernel : decode prog_10_method_1_code 29 = .ok (.iconst 3, 1)) (by decide) (pc' := 30) rfl ?_
  refine k_lt C (by decide) (by decide +kernel : decode prog_10_method_1_code 30 = .ok (.if_icmp .ge 22, 3)) (tgt := 52) (by decide) (pc' := 33) rfl ?_
  refine k_al C (lv_at hl 1 rfl) (by decide +kernel : decode prog_10_method_1_code 33 = .ok (.aload_n 0, 1)) (pc' := 34) rfl ?_
  refine k_gf C (f := 5) (v := .ref (h + 2)) (by decide) (by decide) rfl (by decide) rfl (by decide) (by decide +kernel : decode prog_10_method_1_code 34 = .ok (.getfield 21, 3)) (pc' := 37) rfl ?_
  refine k_il C (lv_at hl 0 rfl) (by decide +kernel : decode prog_10_method_1_code 37 = .ok (.iload_n 1, 1)) (pc' := 38) rfl ?_
  refine k_nw C (c1 := 7) (by decide) (zi1 33 (by decide +kernel) (by decide +kernel)) (zi1 35 (by decide +kernel) (by decide +kernel)) (zi1 3 (by decide +kernel) (by decide +kernel)) ⟨rfl, by rw [hR]; decide, by rw [hR]; decide⟩ (by decide +kernel : decode prog_10_method_1_code 38 = .ok (.new 19, 3)) (pc' := 41) rfl (cells' := 3) rfl (slots' := 519) rfl (n' := 4) rfl ?_
  refine k_du C (by decide +kernel : decode prog_10_method_1_code 41 = .ok (.dup, 1)) (pc' := 42) rfl ?_
  refine k_cN C hl.1 (c1 := 7) (i := 3) (m_i7 Γ _) (zi1 38 (by decide +kernel) (by decide +kernel)) (zi1 3 (by decide +kernel) (by decide +kernel)) (zi1 37 (by decide +kernel) (by decide +kernel)) (by decide) ⟨by decide, by decide⟩ (by rw [hR]; decide) rfl rfl ⟨by rw [hR]; decide, by rw [hR]; decide⟩ rfl rfl (Nat.le_of_ble_eq_true rfl) (by decide +kernel : decode prog_10_method_1_code 42 = .ok (.invokespecial 25, 3)) (pc' := 45) rfl (cells' := 15) rfl (slots' := 748) rfl (n' := 16) rfl ?_
  refine k_aa C (c1 := 7) (t := 4) (i := 2) (j := 3) (N := 3) (by decide) rfl rfl rfl ⟨rfl, by decide, by decide⟩ (by unfold vp_in; decide) (by decide +kernel : decode prog_10_method_1_code 45 = .ok (.aastore, 1)) (pc' := 46) rfl ?_
  refine k_ii C hl (y := 1) (by decide) (by decide +kernel : decode prog_10_method_1_code 46 = .ok (.iinc 1 1, 3)) (pc' := 49) rfl ?_
  clear hl; intro ls hl
  refine k_go C (by decide +kernel : decode prog_10_method_1_code 49 = .ok (.goto (-21), 3)) (pc' := 28) (by decide) ?_
  refine k_il C (lv_at hl 0 rfl) (by decide +kernel : decode prog_10_method_1_code 28 = .ok (.iload_n 1, 1)) (pc' := 29) rfl ?_
  refine k_ic C (v := 3) (by decide +kernel : decode prog_10_method_1_code 29 = .ok (.iconst 3, 1)) (by decide) (pc' := 30) rfl ?_
  refine k_lt C (by decide) (by decide +kernel : decode prog_10_method_1_code 30 = .ok (.if_icmp .ge 22, 3)) (tgt := 52) (by decide) (pc' := 33) rfl ?_
  refine k_al C (lv_at hl 1 rfl) (by decide +kernel : decode prog_10_method_1_code 33 = .ok (.aload_n 0, 1)) (pc' := 34) rfl ?_
  refine k_gf C (f := 5) (v := .ref (h + 2)) (by decide) (by decide) rfl (by decide) rfl (by decide) (by decide +kernel : decode prog_10_method_1_code 34 = .ok (.getfield 21, 3)) (pc' := 37) rfl ?_
  refine k_il C (lv_at hl 0 rfl) (by decide +kernel : decode prog_10_method_1_code 37 = .ok (.iload_n 1, 1)) (pc' := 38) rfl ?_
  refine k_nw C (c1 := 7) (by decide) (zi1 33 (by decide +kernel) (by decide +kernel)) (zi1 35 (by decide +kernel) (by decide +kernel)) (zi1 3 (by decide +kernel) (by decide +kernel)) ⟨rfl, by rw [hR]; decide, by rw [hR]; decide⟩ (by decide +kernel : decode prog_10_method_1_code 38 = .ok (.new 19, 3)) (pc' := 41) rfl (cells' := 16) rfl (slots' := 764) rfl (n' := 17) rfl ?_
  refine k_du C (by decide +kernel : decode prog_10_method_1_code 41 = .ok (.dup, 1)) (pc' := 42) rfl ?_
  refine k_cN C hl.1 (c1 := 7) (i := 16) (m_i7 Γ _) (zi1 38 (by decide +kernel) (by decide +kernel)) (zi1 3 (by decide +kernel) (by decide +kernel)) (zi1 37 (by decide +kernel) (by decide +kernel)) (by decide) ⟨by decide, by decide⟩ (by rw [hR]; decide) rfl rfl ⟨by rw [hR]; decide, by rw [hR]; decide⟩ rfl rfl (Nat.le_of_ble_eq_true rfl) (by decide +kernel : decode prog_10_method_1_code 42 = .ok (.invokespecial 25, 3)) (pc' := 45) rfl (cells' := 28) rfl (slots' := 993) rfl (n' := 29) rfl ?_
  refine k_aa C (c1 := 7) (t := 4) (i := 2) (j := 16) (N := 3) (by decide) rfl rfl rfl ⟨rfl, by decide, by decide⟩ (by unfold vp_in; decide) (by decide +kernel : decode prog_10_method_1_code 45 = .ok (.aastore, 1)) (pc' := 46) rfl ?_
  refine k_ii C hl (y := 2) (by decide) (by decide +kernel : decode prog_10_method_1_code 46 = .ok (.iinc 1 1, 3)) (pc' := 49) rfl ?_
  clear hl; intro ls hl
  refine k_go C (by decide +kernel : decode prog_10_method_1_code 49 = .ok (.goto (-21), 3)) (pc' := 28) (by decide) ?_
  refine k_il C (lv_at hl 0 rfl) (by decide +kernel : decode prog_10_method_1_code 28 = .ok (.iload_n 1, 1)) (pc' := 29) rfl ?_
  refine k_ic C (v := 3) (by decide +kernel : decode prog_10_method_1_code 29 = .ok (.iconst 3, 1)) (by decide) (pc' := 30) rfl ?_
  refine k_lt C (by decide) (by decide +kernel : decode prog_10_method_1_code 30 = .ok (.if_icmp .ge 22, 3)) (tgt := 52) (by decide) (pc' := 33) rfl ?_
  refine k_al C (lv_at hl 1 rfl) (by decide +kernel : decode prog_10_method_1_code 33 = .ok (.aload_n 0, 1)) (pc' := 34) rfl ?_
  refine k_gf C (f := 5) (v := .ref (h + 2)) (by decide) (by decide) rfl (by decide) rfl (by decide) (by decide +kernel : decode prog_10_method_1_code 34 = .ok (.getfield 21, 3)) (pc' := 37) rfl ?_
  refine k_il C (lv_at hl 0 rfl) (by decide +kernel : decode prog_10_method_1_code 37 = .ok (.iload_n 1, 1)) (pc' := 38) rfl ?_
  refine k_nw C (c1 := 7) (by decide) (zi1 33 (by decide +kernel) (by decide +kernel)) (zi1 35 (by decide +kernel) (by decide +kernel)) (zi1 3 (by decide +kernel) (by decide +kernel)) ⟨rfl, by rw [hR]; decide, by rw [hR]; decide⟩ (by decide +kernel : decode prog_10_method_1_code 38 = .ok (.new 19, 3)) (pc' := 41) rfl (cells' := 29) rfl (slots' := 1009) rfl (n' := 30) rfl ?_
  refine k_du C (by decide +kernel : decode prog_10_method_1_code 41 = .ok (.dup, 1)) (pc' := 42) rfl ?_
  refine k_cN C hl.1 (c1 := 7) (i := 29) (m_i7 Γ _) (zi1 38 (by decide +kernel) (by decide +kernel)) (zi1 3 (by decide +kernel) (by decide +kernel)) (zi1 37 (by decide +kernel) (by decide +kernel)) (by decide) ⟨by decide, by decide⟩ (by rw [hR]; decide) rfl rfl ⟨by rw [hR]; decide, by rw [hR]; decide⟩ rfl rfl (Nat.le_of_ble_eq_true rfl) (by decide +kernel : decode prog_10_method_1_code 42 = .ok (.invokespecial 25, 3)) (pc' := 45) rfl (cells' := 41) rfl (slots' := 1238) rfl (n' := 42) rfl ?_
  refine k_aa C (c1 := 7) (t := 4) (i := 2) (j := 29) (N := 3) (by decide) rfl rfl rfl ⟨rfl, by decide, by decide⟩ (by unfold vp_in; decide) (by decide +kernel : decode prog_10_method_1_code 45 = .ok (.aastore, 1)) (pc' := 46) rfl ?_
  refine k_ii C hl (y := 3) (by decide) (by decide +kernel : decode prog_10_method_1_code 46 = .ok (.iinc 1 1, 3)) (pc' := 49) rfl ?_
  clear hl; intro ls hl
  refine k_go C (by decide +kernel : decode prog_10_method_1_code 49 = .ok (.goto (-21), 3)) (pc' := 28) (by decide) ?_
  refine k_il C (lv_at hl 0 rfl) (by decide +kernel : decode prog_10_method_1_code 28 = .ok (.iload_n 1, 1)) (pc' := 29) rfl ?_
  refine k_ic C (v := 3) (by decide +kernel : decode prog_10_method_1_code 29 = .ok (.iconst 3, 1)) (by decide) (pc' := 30) rfl ?_
  refine k_ge C (by decide) (by decide +kernel : decode prog_10_method_1_code 30 = .ok (.if_icmp .ge 22, 3)) (pc' := 52) (by decide) ?_
  exact hend 52 _ (by decide +kernel : decode prog_10_method_1_code 52 = .ok (.return_, 1))
