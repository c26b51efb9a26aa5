section Z36
variable {Γ : zC} {Q : zQ} {M : zM} {t ts tb : Nat} {S : SB} {n nb : Nat} {bd mk : Nat → Int} {l : List Nat} {bar : Int}
/-- putOthers(sale, bids, except), the bids in part 8 of an object of class 7 -/
theorem c_putOthers_7_8 {e : Int} (he : -1 ≤ e ∧ e < 100) (hS : SOK S) (hn : S 1 = (n : Int)) (hC : cS M ts S) (hbd : ∀ i, i < n → M.1 7 tb 8 i = iz (bd i)) (hmk : ∀ i, i < n → mk i = S (24 + i)) (hr : rng n bd mk) (hbar : 0 ≤ bar ∧ bar ≤ 99) (hL : cL M t S bar bd mk [])
    (h : ∀ M', Off (cLn t) M M' → cL M' t S bar bd mk (lin bd mk (fun i => decide ((i : Int) = e)) bar n) → Q none M') : zEv Γ 19 [zo 2 t 0, zo 7 ts 0, zo 7 tb 8, zi (iz e)] M Q := by
  have h7 := hS.2.1
  have loop : ∀ (d i : Nat) (M1 : zM), i + d = n → Off (cLn t) M M1 → cL M1 t S bar bd mk (lin bd mk (fun i => decide ((i : Int) = e)) bar i) → zGo Γ 19 Q 3 [some (zo 2 t 0), some (zo 7 ts 0), some (zo 7 tb 8), some (zi (iz e)), some (zi (iz (i : Int)))] [] M1 := by
    intro d
    induction d with
    | zero =>
      intro i M1 hi ho hL1
      have : i = n := by omega
      subst this
      have hC1 := hC.off ho (by rintro f i ⟨q, -⟩; omega)
      refine bk_19_3_7_8 ⟨fun _ => h M1 ho hL1, fun q => ?_⟩
      exfalso
      rw [hC1.1 1 (by omega), iz_le (by omega) (by omega) (by omega) (by omega)] at q
      omega
    | succ d ih =>
      intro i M1 hi ho hL1
      have hC1 := hC.off ho (by rintro f i ⟨q, -⟩; omega)
      have hb1 : M1.1 7 tb 8 i = iz (bd i) := (ho.1 _ _ _ _ (by rintro ⟨q, -⟩; omega)).trans (hbd i (by omega))
      have hlen := lin_len (bd := bd) (mk := mk) (ex := fun i => decide ((i : Int) = e)) (bar := bar) i
      have i7 := iz_inN (i := i) (n := 7) (by omega) (by omega)
      refine bk_19_3_7_8 ?_
      rw [hC1.1 1 (by omega), iz_le (by omega) (by omega) (by omega) (by omega), iz_eq (by omega) (by omega) (by omega) (by omega), iz_s, iz_clN (by omega), hb1, hC1.2.2.2.2.2.1 i (by omega), ← hmk i (by omega)]
      refine ⟨fun q => by omega, fun _ => ⟨fun q => ih (i + 1) M1 (by omega) ho ?_, fun q => ⟨i7, i7, ?_⟩⟩⟩
      · rw [lin, if_pos (Or.inl (decide_eq_true q))]
        exact hL1
      · refine c_putIn (n := n) hL1 (by omega) (lin_srt i) hr (fun x hx => by have := lin_lt i x hx; omega) (by omega) (by omega) (fun q5 => by have := lin_lt i i q5; omega) hbar (fun q5 => ⟨_, rfl, ih (i + 1) M1 (by omega) ho ?_⟩) (fun q5 p M2 ho2 hp hins hL2 => ⟨_, rfl, ih (i + 1) M2 (by omega) (ho.tr ho2) ?_⟩)
        · rw [lin, if_pos (Or.inr q5)]
          exact hL1
        · rw [lin, if_neg (by rintro (q6 | q6); exact q (of_decide_eq_true q6); exact q5 q6), ← ins2_ins _ (fun x hx => lin_lt i x hx)]
          exact hL2
  exact en_19_7_8 (bk_19_0_7_8 (loop n 0 M (by omega) (Off.rf M) hL))
/-- putOthers(sale, bids, except), the bids in part 2 of an object of class 6 -/
theorem c_putOthers_6_2 {e : Int} (he : -1 ≤ e ∧ e < 100) (hS : SOK S) (hn : S 1 = (n : Int)) (hC : cS M ts S) (hbd : ∀ i, i < n → M.1 6 tb 2 i = iz (bd i)) (hmk : ∀ i, i < n → mk i = S (24 + i)) (hr : rng n bd mk) (hbar : 0 ≤ bar ∧ bar ≤ 99) (hL : cL M t S bar bd mk [])
    (h : ∀ M', Off (cLn t) M M' → cL M' t S bar bd mk (lin bd mk (fun i => decide ((i : Int) = e)) bar n) → Q none M') : zEv Γ 19 [zo 2 t 0, zo 7 ts 0, zo 6 tb 2, zi (iz e)] M Q := by
  have h7 := hS.2.1
  have loop : ∀ (d i : Nat) (M1 : zM), i + d = n → Off (cLn t) M M1 → cL M1 t S bar bd mk (lin bd mk (fun i => decide ((i : Int) = e)) bar i) → zGo Γ 19 Q 3 [some (zo 2 t 0), some (zo 7 ts 0), some (zo 6 tb 2), some (zi (iz e)), some (zi (iz (i : Int)))] [] M1 := by
    intro d
    induction d with
    | zero =>
      intro i M1 hi ho hL1
      have : i = n := by omega
      subst this
      have hC1 := hC.off ho (by rintro f i ⟨q, -⟩; omega)
      refine bk_19_3_6_2 ⟨fun _ => h M1 ho hL1, fun q => ?_⟩
      exfalso
      rw [hC1.1 1 (by omega), iz_le (by omega) (by omega) (by omega) (by omega)] at q
      omega
    | succ d ih =>
      intro i M1 hi ho hL1
      have hC1 := hC.off ho (by rintro f i ⟨q, -⟩; omega)
      have hb1 : M1.1 6 tb 2 i = iz (bd i) := (ho.1 _ _ _ _ (by rintro ⟨q, -⟩; omega)).trans (hbd i (by omega))
      have hlen := lin_len (bd := bd) (mk := mk) (ex := fun i => decide ((i : Int) = e)) (bar := bar) i
      have i7 := iz_inN (i := i) (n := 7) (by omega) (by omega)
      refine bk_19_3_6_2 ?_
      rw [hC1.1 1 (by omega), iz_le (by omega) (by omega) (by omega) (by omega), iz_eq (by omega) (by omega) (by omega) (by omega), iz_s, iz_clN (by omega), hb1, hC1.2.2.2.2.2.1 i (by omega), ← hmk i (by omega)]
      refine ⟨fun q => by omega, fun _ => ⟨fun q => ih (i + 1) M1 (by omega) ho ?_, fun q => ⟨i7, i7, ?_⟩⟩⟩
      · rw [lin, if_pos (Or.inl (decide_eq_true q))]
        exact hL1
      · refine c_putIn (n := n) hL1 (by omega) (lin_srt i) hr (fun x hx => by have := lin_lt i x hx; omega) (by omega) (by omega) (fun q5 => by have := lin_lt i i q5; omega) hbar (fun q5 => ⟨_, rfl, ih (i + 1) M1 (by omega) ho ?_⟩) (fun q5 p M2 ho2 hp hins hL2 => ⟨_, rfl, ih (i + 1) M2 (by omega) (ho.tr ho2) ?_⟩)
        · rw [lin, if_pos (Or.inr q5)]
          exact hL1
        · rw [lin, if_neg (by rintro (q6 | q6); exact q (of_decide_eq_true q6); exact q5 q6), ← ins2_ins _ (fun x hx => lin_lt i x hx)]
          exact hL2
  exact en_19_6_2 (bk_19_0_6_2 (loop n 0 M (by omega) (Off.rf M) hL))
/-- putOthers(sale, bids, except), the bids in part 3 of an object of class 0 -/
theorem c_putOthers_0_3 {e : Int} (he : -1 ≤ e ∧ e < 100) (hS : SOK S) (hn : S 1 = (n : Int)) (hC : cS M ts S) (hbd : ∀ i, i < n → M.1 0 tb 3 i = iz (bd i)) (hmk : ∀ i, i < n → mk i = S (24 + i)) (hr : rng n bd mk) (hbar : 0 ≤ bar ∧ bar ≤ 99) (hL : cL M t S bar bd mk [])
    (h : ∀ M', Off (cLn t) M M' → cL M' t S bar bd mk (lin bd mk (fun i => decide ((i : Int) = e)) bar n) → Q none M') : zEv Γ 19 [zo 2 t 0, zo 7 ts 0, zo 0 tb 3, zi (iz e)] M Q := by
  have h7 := hS.2.1
  have loop : ∀ (d i : Nat) (M1 : zM), i + d = n → Off (cLn t) M M1 → cL M1 t S bar bd mk (lin bd mk (fun i => decide ((i : Int) = e)) bar i) → zGo Γ 19 Q 3 [some (zo 2 t 0), some (zo 7 ts 0), some (zo 0 tb 3), some (zi (iz e)), some (zi (iz (i : Int)))] [] M1 := by
    intro d
    induction d with
    | zero =>
      intro i M1 hi ho hL1
      have : i = n := by omega
      subst this
      have hC1 := hC.off ho (by rintro f i ⟨q, -⟩; omega)
      refine bk_19_3_0_3 ⟨fun _ => h M1 ho hL1, fun q => ?_⟩
      exfalso
      rw [hC1.1 1 (by omega), iz_le (by omega) (by omega) (by omega) (by omega)] at q
      omega
    | succ d ih =>
      intro i M1 hi ho hL1
      have hC1 := hC.off ho (by rintro f i ⟨q, -⟩; omega)
      have hb1 : M1.1 0 tb 3 i = iz (bd i) := (ho.1 _ _ _ _ (by rintro ⟨q, -⟩; omega)).trans (hbd i (by omega))
      have hlen := lin_len (bd := bd) (mk := mk) (ex := fun i => decide ((i : Int) = e)) (bar := bar) i
      have i7 := iz_inN (i := i) (n := 7) (by omega) (by omega)
      refine bk_19_3_0_3 ?_
      rw [hC1.1 1 (by omega), iz_le (by omega) (by omega) (by omega) (by omega), iz_eq (by omega) (by omega) (by omega) (by omega), iz_s, iz_clN (by omega), hb1, hC1.2.2.2.2.2.1 i (by omega), ← hmk i (by omega)]
      refine ⟨fun q => by omega, fun _ => ⟨fun q => ih (i + 1) M1 (by omega) ho ?_, fun q => ⟨i7, i7, ?_⟩⟩⟩
      · rw [lin, if_pos (Or.inl (decide_eq_true q))]
        exact hL1
      · refine c_putIn (n := n) hL1 (by omega) (lin_srt i) hr (fun x hx => by have := lin_lt i x hx; omega) (by omega) (by omega) (fun q5 => by have := lin_lt i i q5; omega) hbar (fun q5 => ⟨_, rfl, ih (i + 1) M1 (by omega) ho ?_⟩) (fun q5 p M2 ho2 hp hins hL2 => ⟨_, rfl, ih (i + 1) M2 (by omega) (ho.tr ho2) ?_⟩)
        · rw [lin, if_pos (Or.inr q5)]
          exact hL1
        · rw [lin, if_neg (by rintro (q6 | q6); exact q (of_decide_eq_true q6); exact q5 q6), ← ins2_ins _ (fun x hx => lin_lt i x hx)]
          exact hL2
  exact en_19_0_3 (bk_19_0_0_3 (loop n 0 M (by omega) (Off.rf M) hL))
theorem c_lineUp (hS : SOK S) (hn : S 1 = (n : Int)) (hC : cS M ts S) (hI : lI M t) (h : ∀ M', Off (cLn t) M M' → cL M' t S (S 3) (fun i => S (17 + i)) (fun i => S (24 + i)) (lin (fun i => S (17 + i)) (fun i => S (24 + i)) (fun _ => false) (S 3) n) → Q none M') : zEv Γ 18 [zo 2 t 0, zo 7 ts 0] M Q := by
  have h7 := hS.2.1
  refine en_18 (bk_18_0 ?_)
  rw [hC.1 3 (by omega)]
  refine c_open hS hC hI (fun M1 ho1 hL1 => ⟨rfl, ?_⟩)
  have hC1 := hC.off ho1 (by rintro f i ⟨q, -⟩; omega)
  rw [iz_m1]
  refine c_putOthers_7_8 (n := n) (e := -1) (by omega) hS hn hC1 (fun i hi => hC1.2.2.2.2.1 i (by omega)) (fun i hi => rfl) (fun i hi => ⟨hS.2.2.2.2.2.2.1 i (by omega), hS.2.2.2.2.2.2.2.1 i (by omega)⟩) hS.2.2.2.1 (hL1 _ _) (fun M2 ho2 hL2 => ⟨rfl, h M2 (ho1.tr ho2) ?_⟩)
  have e : (fun i : Nat => decide ((i : Int) = -1)) = fun _ => false := by
    funext i
    exact decide_eq_false (by omega)
  rw [e] at hL2
  exact hL2
end Z36
