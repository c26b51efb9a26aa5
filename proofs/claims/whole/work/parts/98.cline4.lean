def oL2 (c t f i : Nat) : Prop := (c = 5 ∧ t = 0 ∧ f = 0 ∧ (i = 1 ∨ i = 2 ∨ i = 3 ∨ i = 8)) ∨ (c = 7 ∧ t = 12)
theorem oL_oL2 {c t f i : Nat} (h : oL c t f i) : oL2 c t f i := by
  unfold oL at h
  unfold oL2
  omega
theorem oC_oL2 {c t f i : Nat} (h : oC c t f i) : oL2 c t f i := oL_oL2 (oC_oL h)
section Z98
variable {Γ : zC} {Q : zQ} {M : zM} {tp : Nat → Int} {n m : Nat} {ρ : RP} {T R : SB}
theorem c_readLine {ln : Nat} (hw : ρ.1 = false) (hk : tkK tp n ρ.2.1 ≠ 0) (hL : cRL M tp n m ρ T R) (hl : M.1 5 0 0 3 = iz (ln : Int)) (hln : ln ≤ 600) (h41 : 41 ≤ ln → ρ.2.2.1 ≠ 0) (h : ∀ (M' : zM) (T' : SB), Off oL2 M M' → cRL M' tp n m (lnS tp n ρ R ln).1 T' (lnS tp n ρ R ln).2 → M'.1 5 0 0 3 = iz ((ln + 1 : Nat) : Int) → Q none M') : zEv Γ 70 [zo 5 0 0] M Q := by
  obtain ⟨hR, hB, hC, hW, hE⟩ := hL
  have hR0 := hR
  obtain ⟨hT, ⟨a, ham, ha8, hak⟩, hf, hp, hww⟩ := hR
  have ek := hak hw
  subst ek
  have hm := hT.2.2.2.2.1
  have kb := tkK_b (tp := tp) (n := n) (k := ρ.2.1)
  have in5 : vp_in (iz (ρ.2.1 : Int)) 501 := iz_inN (by omega) (by omega)
  have hat : ρ.2.2.1 ≠ 0 → (ρ.2.2.2 < ((tkW tp n ρ.2.1 : Nat) : Int) ∨ (ρ.2.2.2 = ((tkW tp n ρ.2.1 : Nat) : Int) ∧ ρ.2.2.1 ≤ 3)) := fun z => Or.inl (hB hw z)
  have wl := W_lt hk
  have fk := full_k (ρ := ρ) (b := ln = 40) (a := ((tkW tp n ρ.2.1 : Nat) : Int))
  have wa : (nxS (full ρ (ln = 40) ((tkW tp n ρ.2.1 : Nat) : Int))).1 = false := by
    show (full ρ (ln = 40) ((tkW tp n ρ.2.1 : Nat) : Int)).1 = false
    rw [fk.1]
    exact hw
  have ka : (nxS (full ρ (ln = 40) ((tkW tp n ρ.2.1 : Nat) : Int))).2.1 = ρ.2.1 + 1 := by
    show (full ρ (ln = 40) ((tkW tp n ρ.2.1 : Nat) : Int)).2.1 + 1 = ρ.2.1 + 1
    rw [fk.2]
  have fp : (full ρ (ln = 40) ((tkW tp n ρ.2.1 : Nat) : Int)).2.2.1 ≠ 0 → ((full ρ (ln = 40) ((tkW tp n ρ.2.1 : Nat) : Int)).2.2.2 < ((tkW tp n ρ.2.1 : Nat) : Int) ∨ ((full ρ (ln = 40) ((tkW tp n ρ.2.1 : Nat) : Int)).2.2.2 = ((tkW tp n ρ.2.1 : Nat) : Int) ∧ (full ρ (ln = 40) ((tkW tp n ρ.2.1 : Nat) : Int)).2.2.1 ≤ 3)) := fun z => by
    by_cases f0 : ρ.2.2.1 = 0
    · unfold full at z ⊢
      by_cases q : ln = 40
      · rw [if_pos q, alS_0 hw f0]
        refine Or.inr ⟨rfl, ?_⟩
        show (3 : Int) ≤ 3
        omega
      · rw [if_neg q] at z
        exact absurd f0 z
    · rw [full_n f0 hat]
      exact hat f0
  have sw : ∀ M2 : zM, Off oL2 M M2 → M2.1 5 0 0 3 = iz ((ln + 1 : Nat) : Int) → cR M2 tp n m (nxS (full ρ (ln = 40) ((tkW tp n ρ.2.1 : Nat) : Int))) → cS M2 12 T → ((((tkK tp n ρ.2.1 : Nat) : Int) < 11 ∨ 21 ≤ ((tkK tp n ρ.2.1 : Nat) : Int) → zEv Γ 87 [zo 5 0 0, zi (iz ((tkW tp n ρ.2.1 : Nat) : Int))] M2 (fun o M' => o = none ∧ Q none M')) ∧ ((((tkK tp n ρ.2.1 : Nat) : Int) = 11 → zEv Γ 71 [zo 5 0 0, zi (iz ((tkW tp n ρ.2.1 : Nat) : Int))] M2 (fun o M' => o = none ∧ Q none M')) ∧ ((((tkK tp n ρ.2.1 : Nat) : Int) = 12 → zEv Γ 72 [zo 5 0 0, zi (iz ((tkW tp n ρ.2.1 : Nat) : Int))] M2 (fun o M' => o = none ∧ Q none M')) ∧ ((((tkK tp n ρ.2.1 : Nat) : Int) = 13 → zEv Γ 73 [zo 5 0 0, zo 7 12 9, zi (1 : Int32), zi (9 : Int32)] M2 (fun o M' => o = none ∧ Q none M')) ∧ ((((tkK tp n ρ.2.1 : Nat) : Int) = 14 → zEv Γ 73 [zo 5 0 0, zo 7 12 10, zi (0 : Int32), zi (9999 : Int32)] M2 (fun o M' => o = none ∧ Q none M')) ∧ ((((tkK tp n ρ.2.1 : Nat) : Int) = 15 → zEv Γ 74 [zo 5 0 0] M2 (fun o M' => o = none ∧ Q none M')) ∧ ((((tkK tp n ρ.2.1 : Nat) : Int) = 16 → zEv Γ 75 [zo 5 0 0, zi (iz ((tkW tp n ρ.2.1 : Nat) : Int))] M2 (fun o M' => o = none ∧ Q none M')) ∧ ((((tkK tp n ρ.2.1 : Nat) : Int) = 17 → zEv Γ 76 [zo 5 0 0] M2 (fun o M' => o = none ∧ Q none M')) ∧ ((((tkK tp n ρ.2.1 : Nat) : Int) = 18 → zEv Γ 77 [zo 5 0 0] M2 (fun o M' => o = none ∧ Q none M')) ∧ ((((tkK tp n ρ.2.1 : Nat) : Int) = 19 → zEv Γ 78 [zo 5 0 0] M2 (fun o M' => o = none ∧ Q none M')) ∧ ((((tkK tp n ρ.2.1 : Nat) : Int) = 20 → zEv Γ 79 [zo 5 0 0] M2 (fun o M' => o = none ∧ Q none M')) ∧ True))))))))))) := by
    intro M2 o2 l2 R2 C2
    have hlt : ((tkW tp n ρ.2.1 : Nat) : Int) < ((tkW tp n (nxS (full ρ (ln = 40) ((tkW tp n ρ.2.1 : Nat) : Int))).2.1 : Nat) : Int) := by
      rw [ka]
      omega
    have hL2 : cRL M2 tp n m (nxS (full ρ (ln = 40) ((tkW tp n ρ.2.1 : Nat) : Int))) T R := by
      refine ⟨R2, fun _ z => ?_, C2, hW, fun _ z => ?_⟩
      · have := fp z
        have e : (nxS (full ρ (ln = 40) ((tkW tp n ρ.2.1 : Nat) : Int))).2.2.2 = (full ρ (ln = 40) ((tkW tp n ρ.2.1 : Nat) : Int)).2.2.2 := rfl
        omega
      · exact hE hw (full_0 hw hat z).1
    have hat2 : (nxS (full ρ (ln = 40) ((tkW tp n ρ.2.1 : Nat) : Int))).2.2.1 ≠ 0 → ((nxS (full ρ (ln = 40) ((tkW tp n ρ.2.1 : Nat) : Int))).2.2.2 < ((tkW tp n ρ.2.1 : Nat) : Int) ∨ ((nxS (full ρ (ln = 40) ((tkW tp n ρ.2.1 : Nat) : Int))).2.2.2 = ((tkW tp n ρ.2.1 : Nat) : Int) ∧ (nxS (full ρ (ln = 40) ((tkW tp n ρ.2.1 : Nat) : Int))).2.2.1 ≤ 3)) := fp
    have eln : (11 ≤ tkK tp n ρ.2.1 ∧ tkK tp n ρ.2.1 ≤ 20) → lnS tp n ρ R ln = (finS tp n (bodS tp n (tkK tp n ρ.2.1) (nxS (full ρ (ln = 40) ((tkW tp n ρ.2.1 : Nat) : Int))) R ((tkW tp n ρ.2.1 : Nat) : Int)).1, (bodS tp n (tkK tp n ρ.2.1) (nxS (full ρ (ln = 40) ((tkW tp n ρ.2.1 : Nat) : Int))) R ((tkW tp n ρ.2.1 : Nat) : Int)).2) := fun z => by
      unfold lnS
      rw [if_neg (by rintro (y | y); rw [hw] at y; cases y; exact y z)]
    generalize hρa : nxS (full ρ (ln = 40) ((tkW tp n ρ.2.1 : Nat) : Int)) = ρa at *
    have fin : (11 ≤ tkK tp n ρ.2.1 ∧ tkK tp n ρ.2.1 ≤ 20) → ∀ (b : RP × SB), bodS tp n (tkK tp n ρ.2.1) ρa R ((tkW tp n ρ.2.1 : Nat) : Int) = b → ∀ (M' : zM) (T' : SB), Off oL M2 M' → cRL M' tp n m (finS tp n b.1) T' b.2 → (none : Option zV) = none ∧ Q none M' := fun hk2 b eb M' T' o c => by
      subst eb
      refine ⟨rfl, h M' T' (o2.tr (o.wk fun _ _ _ _ => oL_oL2)) ?_ ((o.1 _ _ _ _ (by unfold oL; omega)).trans l2)⟩
      rw [eln hk2]
      exact c
    have eb : bodS tp n (tkK tp n ρ.2.1) ρa R ((tkW tp n ρ.2.1 : Nat) : Int) = if tkK tp n ρ.2.1 = 11 then boS tp n ρa R ((tkW tp n ρ.2.1 : Nat) : Int) else if tkK tp n ρ.2.1 = 12 then biS tp n ρa R ((tkW tp n ρ.2.1 : Nat) : Int) else if tkK tp n ρ.2.1 = 13 then ofS tp n ρa R 24 1 9 else if tkK tp n ρ.2.1 = 14 then ofS tp n ρa R 31 0 9999 else if tkK tp n ρ.2.1 = 15 then exB tp n ρa R else if tkK tp n ρ.2.1 = 16 then soS tp n ρa R ((tkW tp n ρ.2.1 : Nat) : Int) else if tkK tp n ρ.2.1 = 17 then frB tp n ρa R else if tkK tp n ρ.2.1 = 18 then foB tp n ρa R else if tkK tp n ρ.2.1 = 19 then wyB tp n ρa R else brB tp n ρa R := rfl
    refine ⟨fun z => ?_, fun z => ?_, fun z => ?_, fun z => ?_, fun z => ?_, fun z => ?_, fun z => ?_, fun z => ?_, fun z => ?_, fun z => ?_, fun z => ?_, trivial⟩
    · refine c_stumble (w := ((tkW tp n ρ.2.1 : Nat) : Int)) ρ.2.1 R2 (fun _ => rfl) (fun M3 o3 R3 => ⟨rfl, h M3 T (o2.tr (o3.wk fun _ _ _ _ => oC_oL2)) ?_ ((o3.1 _ _ _ _ (by unfold oC; omega)).trans l2)⟩)
      have e : lnS tp n ρ R ln = (edS tp n ρ, R) := by
        unfold lnS
        rw [if_pos (Or.inr (by omega))]
      rw [e]
      rw [if_neg (by rw [wa]; simp)] at R3
      have e2 : edS tp n ρ = (true, ρ.2.1, 1, ((tkW tp n ρ.2.1 : Nat) : Int)) := by
        unfold edS
        rw [if_neg (by rw [hw]; simp)]
      refine ⟨?_, pB_ed, cS_oc C2 o3, hW, fun y => ?_⟩
      · show cR M3 tp n m (edS tp n ρ)
        rw [e2]
        exact R3
      · have y' : (edS tp n ρ).1 = false := y
        rw [edS_t] at y'
        cases y'
    · exact c_readBoard wa hL2 hat2 hlt (fin (by omega) _ (by rw [eb, if_pos (by omega)]))
    · exact c_readBidder wa hL2 hat2 hlt (fin (by omega) _ (by rw [eb, if_neg (by omega), if_pos (by omega)]))
    · exact c_readMark hL2 (fin (by omega) _ (by rw [eb, if_neg (by omega), if_neg (by omega), if_pos (by omega)]))
    · exact c_readPurse hL2 (fin (by omega) _ (by rw [eb, if_neg (by omega), if_neg (by omega), if_neg (by omega), if_pos (by omega)]))
    · exact c_readExtra hL2 (fin (by omega) _ (by rw [eb, if_neg (by omega), if_neg (by omega), if_neg (by omega), if_neg (by omega), if_pos (by omega)]))
    · exact c_readSort wa hL2 hat2 hlt (fin (by omega) _ (by rw [eb, if_neg (by omega), if_neg (by omega), if_neg (by omega), if_neg (by omega), if_neg (by omega), if_pos (by omega)]))
    · exact c_readFriend hL2 (fin (by omega) _ (by rw [eb, if_neg (by omega), if_neg (by omega), if_neg (by omega), if_neg (by omega), if_neg (by omega), if_neg (by omega), if_pos (by omega)]))
    · exact c_readFoe hL2 (fin (by omega) _ (by rw [eb, if_neg (by omega), if_neg (by omega), if_neg (by omega), if_neg (by omega), if_neg (by omega), if_neg (by omega), if_neg (by omega), if_pos (by omega)]))
    · exact c_readWay wa hL2 (fin (by omega) _ (by rw [eb, if_neg (by omega), if_neg (by omega), if_neg (by omega), if_neg (by omega), if_neg (by omega), if_neg (by omega), if_neg (by omega), if_neg (by omega), if_pos (by omega)]))
    · exact c_readBar hL2 (fin (by omega) _ (by rw [eb, if_neg (by omega), if_neg (by omega), if_neg (by omega), if_neg (by omega), if_neg (by omega), if_neg (by omega), if_neg (by omega), if_neg (by omega), if_neg (by omega)]))
  refine en_70 (bk_70_0 ?_)
  have z3 : (zw M 5 0 0 3 (iz ((ln + 1 : Nat) : Int))).1 5 0 0 3 = iz ((ln + 1 : Nat) : Int) := zw_eq
  have z8 : (zw M 5 0 0 3 (iz ((ln + 1 : Nat) : Int))).1 5 0 0 8 = iz (ρ.2.1 : Int) := (zw_ne (by omega)).trans ha8
  have z5 : (zw M 5 0 0 3 (iz ((ln + 1 : Nat) : Int))).1 5 0 5 ρ.2.1 = iz ((tkK tp n ρ.2.1 : Nat) : Int) := (zw_ne (by omega)).trans (hT.1 _ ham)
  have o0 : Off oL2 M (zw M 5 0 0 3 (iz ((ln + 1 : Nat) : Int))) := (Off.rf M).w _ (by unfold oL2; omega)
  have R0 : cR (zw M 5 0 0 3 (iz ((ln + 1 : Nat) : Int))) tp n m ρ := hR0.off (P := fun c t f i => c = 5 ∧ t = 0 ∧ f = 0 ∧ i = 3) ((Off.rf M).w _ ⟨rfl, rfl, rfl, rfl⟩) (by intro f i _; omega) (by intro i _; omega)
  have C0 : cS (zw M 5 0 0 3 (iz ((ln + 1 : Nat) : Int))) 12 T := hC.off (P := fun c t f i => c = 5 ∧ t = 0 ∧ f = 0 ∧ i = 3) ((Off.rf M).w _ ⟨rfl, rfl, rfl, rfl⟩) (by intro f i; omega)
  rw [hl, iz_s, z3, z8, ha8, iz_clN (by omega), z5, hT.2.1 _ ham, iz_toInt (by omega) (by omega), show (iz ((ln + 1 : Nat) : Int) ≤ 40) = (ln + 1 ≤ 40) by rw [show (40 : Int32) = iz 40 from rfl, iz_le (by omega) (by omega) (by omega) (by omega)]; exact propext ⟨fun z => by omega, fun z => by omega⟩]
  refine ⟨in5, fun q => ⟨in5, ?_⟩, fun q => ?_⟩
  · have ef : full ρ (ln = 40) ((tkW tp n ρ.2.1 : Nat) : Int) = ρ := by
      unfold full
      rw [if_neg (by omega)]
    refine c_goOn R0 (fun _ => hk) (fun M1 o1 R1 => ⟨rfl, sw M1 (o0.tr (o1.wk fun _ _ _ _ => oC_oL2)) ((o1.1 _ _ _ _ (by unfold oC; omega)).trans z3) ?_ (cS_oc C0 o1)⟩)
    rw [ef]
    exact R1
  · have ef : alS ρ 3 ((tkW tp n ρ.2.1 : Nat) : Int) = full ρ (ln = 40) ((tkW tp n ρ.2.1 : Nat) : Int) := by
      by_cases f0 : ρ.2.2.1 = 0
      · have : ln = 40 := Classical.byContradiction fun z => h41 (by omega) f0
        unfold full
        rw [if_pos this]
      · rw [full_n f0 hat]
        exact alS_f f0 (hat f0)
    refine c_note (kd := 3) R0 (by omega) (fun _ z => hat z) (fun M3 o3 R3 => ⟨rfl, ?_⟩)
    rw [ef] at R3
    obtain ⟨a', ham', ha8', hak'⟩ := R3.2.1
    have ea : a' = ρ.2.1 := by
      rw [hak' (by rw [fk.1]; exact hw), fk.2]
    subst ea
    rw [ha8', iz_clN (by omega), R3.1.1 _ ham', iz_toInt (by omega) (by omega)]
    refine ⟨in5, c_goOn R3 (fun _ => by rw [fk.2]; exact hk) (fun M1 o1 R1 => ⟨rfl, sw M1 ((o0.tr (o3.wk fun _ _ _ _ => oC_oL2)).tr (o1.wk fun _ _ _ _ => oC_oL2)) (((o1.1 _ _ _ _ (by unfold oC; omega)).trans (o3.1 _ _ _ _ (by unfold oC; omega))).trans z3) R1 (cS_oc (cS_oc C0 o3) o1)⟩)⟩
end Z98
