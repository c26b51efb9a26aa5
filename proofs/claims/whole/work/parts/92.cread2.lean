theorem W_lt {tp : Nat → Int} {n k : Nat} (h : tkK tp n k ≠ 0) : tkW tp n k < tkW tp n (k + 1) := by
  have hs := tkW_le (tp := tp) (n := n) (k := k)
  have hs1 := tkW_le (tp := tp) (n := n) (k := k + 1)
  have h0 : tkW tp n k ≠ n := fun z => h (tkK_0.mpr z)
  have h1 := (tkE_le (tp := tp) (n := n) (w := tkW tp n k) hs.2.1).2.2 (by omega)
  have e : tkP tp n (k + 1) = tkE tp n (tkW tp n k) := rfl
  omega
theorem W_le {tp : Nat → Int} {n k : Nat} : tkW tp n k ≤ tkW tp n (k + 1) := by
  have hs := tkW_le (tp := tp) (n := n) (k := k)
  have hs1 := tkW_le (tp := tp) (n := n) (k := k + 1)
  omega
section Z92a
variable {tp : Nat → Int} {n : Nat} {ρ : RP} {lo hi : Int}
theorem pB_nx (h : pB tp n ρ) : pB tp n (nxS ρ) := fun h1 h2 => by
  have := h h1 h2
  have := W_le (tp := tp) (n := n) (k := ρ.2.1)
  show ρ.2.2.2 < ((tkW tp n (ρ.2.1 + 1) : Nat) : Int)
  omega
theorem pB_ed : pB tp n (edS tp n ρ) := fun h1 => by rw [edS_t] at h1; cases h1
theorem pB_al {kd at_ : Int} (h : pB tp n ρ) (ha : at_ < ((tkW tp n ρ.2.1 : Nat) : Int)) : pB tp n (alS ρ kd at_) := by
  unfold alS
  split
  · exact h
  · intro _ _
    exact ha
theorem pB_nu (h : pB tp n ρ) : pB tp n (nuS tp n ρ lo hi).1 := by
  unfold nuS
  split
  · exact pB_ed
  · next hc =>
    split
    · exact pB_nx h
    · have k1 : tkK tp n ρ.2.1 = 1 := Classical.byContradiction fun z => hc (Or.inr z)
      have wl := W_lt (tp := tp) (n := n) (k := ρ.2.1) (by omega)
      have e := alS_k ρ 2 ((tkW tp n ρ.2.1 : Nat) : Int)
      by_cases f0 : ρ.2.2.1 = 0
      · cases hb : ρ.1 with
        | true => exact absurd (Or.inl hb) hc
        | false =>
          show pB tp n (nxS (alS ρ 2 ((tkW tp n ρ.2.1 : Nat) : Int)))
          rw [alS_0 hb f0]
          intro _ _
          show ((tkW tp n ρ.2.1 : Nat) : Int) < ((tkW tp n (ρ.2.1 + 1) : Nat) : Int)
          omega
      · cases hb : ρ.1 with
        | true => exact absurd (Or.inl hb) hc
        | false =>
          show pB tp n (nxS (alS ρ 2 ((tkW tp n ρ.2.1 : Nat) : Int)))
          rw [alS_f f0 (Or.inl (h hb f0))]
          exact pB_nx h
theorem nu_0 (h1 : (nuS tp n ρ lo hi).1.1 = false) (h2 : (nuS tp n ρ lo hi).1.2.2.1 = 0) : ρ.1 = false ∧ ρ.2.2.1 = 0 ∧ (nuS tp n ρ lo hi).2.1 = true ∧ (nuS tp n ρ lo hi).1 = nxS ρ ∧ tkK tp n ρ.2.1 = 1 ∧ lo ≤ (nuS tp n ρ lo hi).2.2 ∧ (nuS tp n ρ lo hi).2.2 ≤ hi := by
  unfold nuS at h1 h2 ⊢
  by_cases hc : ρ.1 = true ∨ tkK tp n ρ.2.1 ≠ 1
  · rw [if_pos hc] at h1
    have := edS_t (tp := tp) (n := n) (ρ := ρ)
    rw [h1] at this
    cases this
  · rw [if_neg hc] at h1 h2 ⊢
    have k1 : tkK tp n ρ.2.1 = 1 := Classical.byContradiction fun z => hc (Or.inr z)
    have hb : ρ.1 = false := by
      cases hb : ρ.1 with
      | true => exact absurd (Or.inl hb) hc
      | false => rfl
    by_cases hr : lo ≤ tkN tp n ρ.2.1 ∧ tkN tp n ρ.2.1 ≤ hi
    · rw [if_pos hr] at h2 ⊢
      exact ⟨hb, h2, rfl, rfl, k1, hr.1, hr.2⟩
    · rw [if_neg hr] at h2
      by_cases f0 : ρ.2.2.1 = 0
      · rw [alS_0 hb f0] at h2
        exact absurd h2 (by show ¬ (2 : Int) = 0; omega)
      · have h2' : (alS ρ 2 ((tkW tp n ρ.2.1 : Nat) : Int)).2.2.1 = 0 := h2
        unfold alS at h2'
        split at h2'
        · exact absurd h2' f0
        · exact absurd h2' (by show ¬ (2 : Int) = 0; omega)
theorem nu_w (h : ρ.1 = true) : (nuS tp n ρ lo hi).1 = ρ := by
  unfold nuS
  rw [if_pos (Or.inl h)]
  exact edS_w h
theorem pB_fin (h : pB tp n ρ) : pB tp n (finS tp n ρ) := by
  unfold finS
  split
  · exact pB_ed
  · exact pB_nx h
theorem fin_0 (h1 : (finS tp n ρ).1 = false) : ρ.1 = false ∧ finS tp n ρ = nxS ρ ∧ tkK tp n ρ.2.1 = 2 := by
  unfold finS at h1 ⊢
  by_cases hc : ρ.1 = true ∨ tkK tp n ρ.2.1 ≠ 2
  · rw [if_pos hc, edS_t] at h1
    cases h1
  · rw [if_neg hc] at h1 ⊢
    exact ⟨h1, rfl, Classical.byContradiction fun z => hc (Or.inr z)⟩
theorem nu_k1 (h : (nuS tp n ρ lo hi).2.1 = true) : tkK tp n ρ.2.1 = 1 := by
  unfold nuS at h
  apply Classical.byContradiction
  intro z
  rw [if_pos (Or.inr z)] at h
  cases h
theorem pB_tw {R : SB} (h : pB tp n ρ) : pB tp n (twS tp n ρ R).1 := by
  have h1 : pB tp n (oneS tp n ρ R).1 := pB_nu h
  have h2 : pB tp n (oneS tp n (oneS tp n ρ R).1 R).1 := pB_nu h1
  unfold twS
  split
  · next hc =>
    split
    · have k2 := nuS_g (tp := tp) (n := n) (ρ := (oneS tp n ρ R).1) (lo := 0) (hi := R 1 - 1) hc.2
      refine pB_al h2 ?_
      have e : (oneS tp n (oneS tp n ρ R).1 R).1 = nxS (oneS tp n ρ R).1 := k2.2.1
      have k1 : tkK tp n (oneS tp n ρ R).1.2.1 = 1 := nu_k1 (lo := 0) (hi := R 1 - 1) hc.2
      rw [e]
      have := W_lt (tp := tp) (n := n) (k := (oneS tp n ρ R).1.2.1) (by omega)
      show ((tkW tp n (oneS tp n ρ R).1.2.1 : Nat) : Int) < ((tkW tp n ((oneS tp n ρ R).1.2.1 + 1) : Nat) : Int)
      omega
    · exact h2
  · exact h2
theorem pB_mo (h : pB tp n ρ) : pB tp n (moS tp n ρ).1 := by
  unfold moS
  split
  · exact pB_ed
  · exact pB_nu (pB_nx h)
theorem tw_0 {R : SB} (h1 : (twS tp n ρ R).1.1 = false) (h2 : (twS tp n ρ R).1.2.2.1 = 0) : (oneS tp n (oneS tp n ρ R).1 R).1.1 = false ∧ (oneS tp n (oneS tp n ρ R).1 R).1.2.2.1 = 0 := by
  unfold twS at h1 h2
  split at h1
  · next hc =>
    rw [if_pos hc] at h2
    split at h1
    · next he =>
      rw [if_pos he] at h2
      exfalso
      have k2 := nuS_g (tp := tp) (n := n) (ρ := (oneS tp n ρ R).1) (lo := 0) (hi := R 1 - 1) hc.2
      have hb : (oneS tp n (oneS tp n ρ R).1 R).1.1 = false := by
        have e : (oneS tp n (oneS tp n ρ R).1 R).1 = nxS (oneS tp n ρ R).1 := k2.2.1
        rw [e]
        exact k2.1
      by_cases f0 : (oneS tp n (oneS tp n ρ R).1 R).1.2.2.1 = 0
      · rw [alS_0 hb f0] at h2
        exact absurd h2 (by show ¬ (2 : Int) = 0; omega)
      · have h2' := h2
        unfold alS at h2'
        split at h2'
        · exact absurd h2' f0
        · exact absurd h2' (by show ¬ (2 : Int) = 0; omega)
    · next he =>
      rw [if_neg he] at h2
      exact ⟨h1, h2⟩
  · next hc =>
    rw [if_neg hc] at h2
    exact ⟨h1, h2⟩
theorem mo_0 (h1 : (moS tp n ρ).1.1 = false) (h2 : (moS tp n ρ).1.2.2.1 = 0) : ρ.1 = false ∧ ρ.2.2.1 = 0 ∧ -999 ≤ (moS tp n ρ).2 ∧ (moS tp n ρ).2 ≤ 999 := by
  unfold moS at h1 h2 ⊢
  split at h1
  · rw [edS_t] at h1
    cases h1
  · next hc =>
    rw [if_neg hc] at h2 ⊢
    have := nu_0 h1 h2
    refine ⟨this.1, this.2.1, ?_⟩
    dsimp only
    split <;> omega
end Z92a
section Z92
variable {Γ : zC} {Q : zQ} {M : zM} {tp : Nat → Int} {n m : Nat} {ρ : RP} {T R : SB}
theorem c_takeBidder (hR : cR M tp n m ρ) (hB : pB tp n ρ) (hC : M.1 7 12 0 1 = iz (T 1)) (h1 : 0 ≤ T 1 ∧ T 1 ≤ 7) (he : ρ.1 = false → ρ.2.2.1 = 0 → T 1 = R 1) (h : ∀ (M' : zM) (v : Int), Off oC M M' → cR M' tp n m (oneS tp n ρ R).1 → -1 ≤ v → v ≤ 9999 → ((oneS tp n ρ R).1.1 = false → (oneS tp n ρ R).1.2.2.1 = 0 → (oneS tp n ρ R).2.1 = true ∧ v = (oneS tp n ρ R).2.2) → Q (some (zi (iz v))) M') : zEv Γ 80 [zo 5 0 0] M Q := by
  refine en_80 (bk_80_0 ?_)
  rw [hC, iz1, iz_sub]
  exact c_takeNumber (la := 0) (lo := 0) (hi := R 1 - 1) hR hB (by omega) (by omega) (fun z1 z2 => ⟨rfl, by rw [he z1 z2]⟩) (fun M' v o r v1 v2 g => ⟨_, rfl, h M' v o r v1 v2 g⟩)
theorem c_takeOther {one : Int} (hR : cR M tp n m (oneS tp n ρ R).1) (hB : pB tp n ρ) (hC : M.1 7 12 0 1 = iz (T 1)) (h1 : 0 ≤ T 1 ∧ T 1 ≤ 7) (he : (oneS tp n ρ R).1.1 = false → (oneS tp n ρ R).1.2.2.1 = 0 → T 1 = R 1) (ho : -1 ≤ one ∧ one ≤ 9999) (hg : (oneS tp n ρ R).1.1 = false → (oneS tp n ρ R).1.2.2.1 = 0 → (oneS tp n ρ R).2.1 = true ∧ one = (oneS tp n ρ R).2.2) (h : ∀ (M' : zM) (v : Int), Off oC M M' → cR M' tp n m (twS tp n ρ R).1 → -1 ≤ v → v ≤ 9999 → ((twS tp n ρ R).1.1 = false → (twS tp n ρ R).1.2.2.1 = 0 → 0 ≤ one ∧ one < R 1 ∧ 0 ≤ v ∧ v < R 1 ∧ (twS tp n ρ R).2 = 7 * one + v) → Q (some (zi (iz v))) M') : zEv Γ 81 [zo 5 0 0, zi (iz one)] M Q := by
  have hR0 := hR
  obtain ⟨hT, ⟨a, ham, ha8, hak⟩, hf, hp, hw⟩ := hR
  have hm := hT.2.2.2.2.1
  have in5 : vp_in (iz (a : Int)) 501 := iz_inN (by omega) (by omega)
  have pB1 : pB tp n (oneS tp n ρ R).1 := pB_nu hB
  refine en_81 (bk_81_0 ⟨by rw [ha8]; exact in5, ?_⟩)
  rw [iz_m1, hC, iz1, iz_sub, ha8, iz_clN (by omega), hT.2.1 a ham]
  refine c_takeNumber (la := 0) (lo := 0) (hi := R 1 - 1) hR0 pB1 (by omega) (by omega) (fun z1 z2 => ⟨rfl, by rw [he z1 z2]⟩) (fun M1 v o1 R1 v1 v2 g => ⟨_, rfl, ?_⟩)
  have R1' : cR M1 tp n m (oneS tp n (oneS tp n ρ R).1 R).1 := R1
  rw [iz_eq (by omega) (by omega) (by omega) (by omega), iz_eq (by omega) (by omega) (by omega) (by omega)]
  by_cases c2 : (oneS tp n (oneS tp n ρ R).1 R).1.1 = false ∧ (oneS tp n (oneS tp n ρ R).1 R).1.2.2.1 = 0
  · obtain ⟨g2, ev⟩ := g c2.1 c2.2
    have q2 := nu_0 (tp := tp) (n := n) (ρ := (oneS tp n ρ R).1) (lo := 0) (hi := R 1 - 1) c2.1 c2.2
    obtain ⟨g1, eo⟩ := hg q2.1 q2.2.1
    have q1 := nu_0 (tp := tp) (n := n) (ρ := ρ) (lo := 0) (hi := R 1 - 1) q2.1 q2.2.1
    have b1 : 0 ≤ (oneS tp n ρ R).2.2 ∧ (oneS tp n ρ R).2.2 ≤ R 1 - 1 := q1.2.2.2.2.2
    have b2 : 0 ≤ (nuS tp n (oneS tp n ρ R).1 0 (R 1 - 1)).2.2 ∧ (nuS tp n (oneS tp n ρ R).1 0 (R 1 - 1)).2.2 ≤ R 1 - 1 := q2.2.2.2.2.2
    have ev' : v = (oneS tp n (oneS tp n ρ R).1 R).2.2 := ev
    unfold twS at h
    rw [if_pos ⟨g1, g2⟩, ← eo, ← ev'] at h
    refine ⟨fun z => by omega, fun _ => ⟨fun z => ?_, fun z => ?_⟩⟩
    · rw [if_neg (fun y => z y.symm)] at h
      exact h M1 v o1 R1' v1 v2 (fun _ _ => ⟨by omega, by omega, by omega, by omega, rfl⟩)
    · rw [if_pos z.symm] at h
      rw [hak q2.1]
      refine c_note (kd := 2) R1' (by omega) (fun _ y => absurd c2.2 y) (fun M2 o2 R2 => ⟨rfl, h M2 v (o1.tr o2) R2 v1 v2 (fun _ y => ?_)⟩)
      rw [alS_0 c2.1 c2.2] at y
      exact absurd y (by show ¬ (2 : Int) = 0; omega)
  · have f2 : (oneS tp n (oneS tp n ρ R).1 R).1.2.2.1 ≠ 0 := fun z => by
      cases hb : (oneS tp n (oneS tp n ρ R).1 R).1.1 with
      | true =>
        have := R1'.2.2.2.2.mp hb
        omega
      | false => exact c2 ⟨hb, z⟩
    have eT : (twS tp n ρ R).1 = (oneS tp n (oneS tp n ρ R).1 R).1 := by
      unfold twS
      split
      · next hc =>
        split
        · have k2 := nuS_g (tp := tp) (n := n) (ρ := (oneS tp n ρ R).1) (lo := 0) (hi := R 1 - 1) hc.2
          have e : (oneS tp n (oneS tp n ρ R).1 R).1 = nxS (oneS tp n ρ R).1 := k2.2.1
          have f1 : (oneS tp n ρ R).1.2.2.1 ≠ 0 := by
            rw [e] at f2
            exact f2
          have := pB1 k2.1 f1
          refine alS_f f2 (Or.inl ?_)
          rw [e]
          exact this
        · rfl
      · rfl
    rw [eT] at h
    have nv : Q (some (zi (iz v))) M1 := h M1 v o1 R1' v1 v2 (fun _ z => absurd z f2)
    exact ⟨fun _ => nv, fun _ => ⟨fun _ => nv, fun _ => c_note0 R1' f2 ⟨rfl, nv⟩⟩⟩
theorem c_takeAmount (hR : cR M tp n m ρ) (hB : pB tp n ρ) (h : ∀ (M' : zM) (v : Int), Off oC M M' → cR M' tp n m (moS tp n ρ).1 → -9999 ≤ v → v ≤ 9999 → ((moS tp n ρ).1.1 = false → (moS tp n ρ).1.2.2.1 = 0 → v = (moS tp n ρ).2) → Q (some (zi (iz v))) M') : zEv Γ 82 [zo 5 0 0] M Q := by
  have hR0 := hR
  obtain ⟨hT, ⟨a, ham, ha8, hak⟩, hf, hp, hw⟩ := hR
  have hm := hT.2.2.2.2.1
  have kb := tkK_b (tp := tp) (n := n) (k := a)
  have in5 : vp_in (iz (a : Int)) 501 := iz_inN (by omega) (by omega)
  refine en_82 (bk_82_0 ?_)
  rw [ha8, iz_clN (by omega), hT.1 a ham, hT.2.1 a ham, show (iz ((tkK tp n a : Nat) : Int) = 24) = (tkK tp n a = 24) by rw [show (24 : Int32) = iz 24 from rfl, iz_eq (by omega) (by omega) (by omega) (by omega)]; exact propext ⟨fun z => by omega, fun z => by omega⟩, show (iz ((tkK tp n a : Nat) : Int) = 25) = (tkK tp n a = 25) by rw [show (25 : Int32) = iz 25 from rfl, iz_eq (by omega) (by omega) (by omega) (by omega)]; exact propext ⟨fun z => by omega, fun z => by omega⟩]
  have go : (tkK tp n a = 24 ∨ tkK tp n a = 25) → zEv Γ 85 [zo 5 0 0] M (fun o M1 => o = none ∧ zEv Γ 83 [zo 5 0 0, zi 0, zi 999] M1 (fun o M2 => ∃ r2, o = some (zi r2) ∧ ((¬ tkK tp n a = 25 → Q (some (zi r2)) M2) ∧ (tkK tp n a = 25 → Q (some (zi (-r2))) M2)))) := fun hk => by
    refine c_goOn hR0 (fun z => by rw [← hak z]; omega) (fun M1 o1 R1 => ⟨rfl, ?_⟩)
    refine c_takeNumber (la := 0) (ha := 999) (lo := 0) (hi := 999) R1 (pB_nx hB) (by omega) (by omega) (fun _ _ => ⟨rfl, rfl⟩) (fun M2 v o2 R2 v1 v2 g => ⟨_, rfl, ?_⟩)
    cases hb : ρ.1 with
    | true =>
      have e : (moS tp n ρ).1 = ρ := by
        unfold moS
        rw [if_pos (Or.inl hb)]
        exact edS_w hb
      rw [e] at h
      have R2' : cR M2 tp n m ρ := by
        rw [nu_w (ρ := nxS ρ) hb] at R2
        exact R2.wr hb hb rfl
      have nv : ∀ w : Int, -9999 ≤ w → w ≤ 9999 → Q (some (zi (iz w))) M2 := fun w w1 w2 => h M2 w (o1.tr o2) R2' w1 w2 (fun z => by rw [hb] at z; cases z)
      exact ⟨fun _ => nv v (by omega) v2, fun _ => by rw [iz_neg]; exact nv (-v) (by omega) (by omega)⟩
    | false =>
      have ek := hak hb
      subst ek
      have nc : ¬ (ρ.1 = true ∨ ¬ (tkK tp n ρ.2.1 = 24 ∨ tkK tp n ρ.2.1 = 25)) := by
        rintro (z | z)
        · rw [hb] at z; cases z
        · exact z hk
      have e : moS tp n ρ = ((nuS tp n (nxS ρ) 0 999).1, if tkK tp n ρ.2.1 = 24 then (nuS tp n (nxS ρ) 0 999).2.2 else -(nuS tp n (nxS ρ) 0 999).2.2) := by
        unfold moS
        rw [if_neg nc]
      rw [e] at h
      refine ⟨fun z => h M2 v (o1.tr o2) R2 (by omega) v2 (fun z1 z2 => ?_), fun z => ?_⟩
      · rw [if_pos (by omega)]
        exact (g z1 z2).2
      · rw [iz_neg]
        refine h M2 (-v) (o1.tr o2) R2 (by omega) (by omega) (fun z1 z2 => ?_)
        rw [if_neg (by omega), (g z1 z2).2]
  refine ⟨in5, fun k4 => go (Or.inl k4), fun k4 => ⟨fun k5 => ⟨in5, ?_⟩, fun k5 => go (Or.inr k5)⟩⟩
  have eM : moS tp n ρ = (edS tp n ρ, 0) := by
    unfold moS
    rw [if_pos]
    cases hb : ρ.1 with
    | true => exact Or.inl rfl
    | false => exact Or.inr (by rw [← hak hb]; rintro (z | z); exact k4 z; exact k5 z)
  rw [eM] at h
  refine c_stumble (w := ((tkW tp n a : Nat) : Int)) ρ.2.1 hR0 (fun _ => rfl) (fun M1 o1 R1 => ⟨rfl, ?_⟩)
  have R1' : cR M1 tp n m (edS tp n ρ) := by
    unfold edS
    cases hb : ρ.1 with
    | true =>
      rw [hb] at R1
      exact R1
    | false =>
      rw [hb, hak hb] at R1
      exact R1
  refine c_takeNumber (la := 0) (ha := 999) (lo := 0) (hi := 999) R1' pB_ed (by omega) (by omega) (fun _ _ => ⟨rfl, rfl⟩) (fun M2 v o2 R2 v1 v2 g => ⟨_, rfl, fun _ => ?_, fun z => absurd z k5⟩)
  rw [nu_w edS_t] at R2
  exact h M2 v (o1.tr o2) R2 (by omega) v2 (fun z => by rw [edS_t] at z; cases z)
/-- the stop at a line's end, and what is asked of the fault behind it -/
theorem c_stop {B G : zM → Prop} (hR : cR M tp n m ρ) (hb : ∀ M', Off oC M M' → cR M' tp n m (finS tp n ρ) → (finS tp n ρ).2.2.1 ≠ 0 → B M') (hg : ∀ M', Off oC M M' → cR M' tp n m (finS tp n ρ) → ρ.1 = false → ρ.2.2.1 = 0 → finS tp n ρ = nxS ρ → G M') : zEv Γ 84 [zo 5 0 0] M (fun o M1 => o = none ∧ ((¬ M1.1 5 0 0 1 = 0 → B M1) ∧ (M1.1 5 0 0 1 = 0 → G M1))) := by
  refine c_takeStop hR (fun M1 o1 R1 => ⟨rfl, ?_⟩)
  have hf := R1.2.2.1
  rw [hf.1, show (iz (finS tp n ρ).2.2.1 = 0) = ((finS tp n ρ).2.2.1 = 0) by rw [iz0, iz_eq (by omega) (by omega) (by omega) (by omega)]]
  refine ⟨fun z => hb M1 o1 R1 z, fun z => ?_⟩
  have hw : (finS tp n ρ).1 = false := by
    cases hc : (finS tp n ρ).1 with
    | true =>
      have := R1.2.2.2.2.mp hc
      omega
    | false => rfl
  have f := fin_0 hw
  rw [f.2.1] at z
  exact hg M1 o1 R1 f.1 z f.2.1
end Z92
