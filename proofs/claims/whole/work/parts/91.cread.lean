/-! the class reads: its state beside the reference's (wrong, token, fault, place) -/
def cTk (M : zM) (tp : Nat → Int) (n m : Nat) : Prop := (∀ k, k ≤ m → M.1 5 0 5 k = iz ((tkK tp n k : Nat) : Int)) ∧ (∀ k, k ≤ m → M.1 5 0 6 k = iz ((tkW tp n k : Nat) : Int)) ∧ (∀ k, k ≤ m → tkK tp n k = 1 → M.1 5 0 7 k = iz (tkN tp n k)) ∧ M.1 5 0 0 7 = iz (m : Int) ∧ m ≤ 500 ∧ tkK tp n m = 0 ∧ (∀ k, k < m → tkK tp n k ≠ 0) ∧ n ≤ 500 ∧ ∀ p, p < n → 0 ≤ tp p ∧ tp p ≤ 255
def cR (M : zM) (tp : Nat → Int) (n m : Nat) (ρ : RP) : Prop := cTk M tp n m ∧ (∃ a : Nat, a ≤ m ∧ M.1 5 0 0 8 = iz (a : Int) ∧ (ρ.1 = false → a = ρ.2.1)) ∧ (M.1 5 0 0 1 = iz ρ.2.2.1 ∧ 0 ≤ ρ.2.2.1 ∧ ρ.2.2.1 ≤ 5) ∧ M.1 5 0 0 2 = iz ρ.2.2.2 ∧ (ρ.1 = true ↔ ρ.2.2.1 = 1)
def pB (tp : Nat → Int) (n : Nat) (ρ : RP) : Prop := ρ.1 = false → ρ.2.2.1 ≠ 0 → ρ.2.2.2 < ((tkW tp n ρ.2.1 : Nat) : Int)
def oC (c t f i : Nat) : Prop := c = 5 ∧ t = 0 ∧ f = 0 ∧ (i = 1 ∨ i = 2 ∨ i = 8)
section Z91
variable {Γ : zC} {Q : zQ} {M : zM} {tp : Nat → Int} {n m : Nat} {ρ : RP}
theorem cTk.off {P : Nat → Nat → Nat → Nat → Prop} {M M' : zM} (h : cTk M tp n m) (ho : Off P M M') (h1 : ∀ f i, (f = 5 ∨ f = 6 ∨ f = 7) → ¬ P 5 0 f i) (h2 : ¬ P 5 0 0 7) : cTk M' tp n m := ⟨fun k hk => (ho.1 _ _ _ _ (h1 5 k (by omega))).trans (h.1 k hk), fun k hk => (ho.1 _ _ _ _ (h1 6 k (by omega))).trans (h.2.1 k hk), fun k hk z => (ho.1 _ _ _ _ (h1 7 k (by omega))).trans (h.2.2.1 k hk z), (ho.1 _ _ _ _ h2).trans h.2.2.2.1, h.2.2.2.2⟩
theorem cTk.oc {M M' : zM} (h : cTk M tp n m) (ho : Off oC M M') : cTk M' tp n m := h.off ho (by unfold oC; intro f i hf; omega) (by unfold oC; omega)
theorem cR.wr {ρ ρ' : RP} (h : cR M tp n m ρ) (h1 : ρ.1 = true) (h2 : ρ'.1 = true) (h3 : ρ'.2.2 = ρ.2.2) : cR M tp n m ρ' := by
  obtain ⟨hT, ⟨a, ham, ha8, hak⟩, hf, hp, hw⟩ := h
  refine ⟨hT, ⟨a, ham, ha8, fun z => by rw [h2] at z; cases z⟩, by rw [h3]; exact hf, by rw [h3]; exact hp, ?_⟩
  rw [h2, h3]
  exact ⟨fun _ => hw.mp h1, fun _ => rfl⟩
theorem cR.off {P : Nat → Nat → Nat → Nat → Prop} {M M' : zM} (h : cR M tp n m ρ) (ho : Off P M M') (h1 : ∀ f i, (f = 5 ∨ f = 6 ∨ f = 7) → ¬ P 5 0 f i) (h2 : ∀ i, (i = 1 ∨ i = 2 ∨ i = 7 ∨ i = 8) → ¬ P 5 0 0 i) : cR M' tp n m ρ := by
  obtain ⟨hT, ⟨a, ham, ha8, hak⟩, hf, hp, hw⟩ := h
  exact ⟨hT.off ho h1 (h2 7 (by omega)), ⟨a, ham, (ho.1 _ _ _ _ (h2 8 (by omega))).trans ha8, hak⟩, ⟨(ho.1 _ _ _ _ (h2 1 (by omega))).trans hf.1, hf.2⟩, (ho.1 _ _ _ _ (h2 2 (by omega))).trans hp, hw⟩
theorem alS_w {kd at_ : Int} (h : ρ.1 = true) : alS ρ kd at_ = ρ := by unfold alS; rw [if_pos (Or.inl h)]
theorem alS_f {kd at_ : Int} (h : ρ.2.2.1 ≠ 0) (ha : ρ.2.2.2 < at_ ∨ (ρ.2.2.2 = at_ ∧ ρ.2.2.1 ≤ kd)) : alS ρ kd at_ = ρ := by unfold alS; rw [if_pos (Or.inr ⟨h, ha⟩)]
theorem alS_0 {kd at_ : Int} (h : ρ.1 = false) (h0 : ρ.2.2.1 = 0) : alS ρ kd at_ = (ρ.1, ρ.2.1, kd, at_) := by
  unfold alS
  rw [if_neg]
  rintro (z | z)
  · rw [h] at z; cases z
  · exact z.1 h0
theorem al_nx {kd at_ : Int} : alS (nxS ρ) kd at_ = nxS (alS ρ kd at_) := by
  unfold alS nxS
  dsimp only
  split <;> rfl
theorem c_note {kd at_ : Int} (hR : cR M tp n m ρ) (hk : 2 ≤ kd ∧ kd ≤ 5) (ha : ρ.1 = false → ρ.2.2.1 ≠ 0 → (ρ.2.2.2 < at_ ∨ (ρ.2.2.2 = at_ ∧ ρ.2.2.1 ≤ kd))) (h : ∀ M', Off oC M M' → cR M' tp n m (alS ρ kd at_) → Q none M') : zEv Γ 86 [zo 5 0 0, zi (iz kd), zi (iz at_)] M Q := by
  obtain ⟨hT, ⟨a, ham, ha8, hak⟩, hf, hp, hw⟩ := hR
  refine en_86 (bk_86_0 ?_)
  rw [hf.1, show (iz ρ.2.2.1 = 0) = (ρ.2.2.1 = 0) by rw [iz0, iz_eq (by omega) (by omega) (by omega) (by omega)]]
  refine ⟨fun q => ?_, fun q => ?_⟩
  · have e : alS ρ kd at_ = ρ := by
      cases hb : ρ.1 with
      | true => exact alS_w hb
      | false => exact alS_f q (ha hb q)
    exact h M (Off.rf M) (by rw [e]; exact ⟨hT, ⟨a, ham, ha8, hak⟩, hf, hp, hw⟩)
  · have hb : ρ.1 = false := by
      cases hb : ρ.1 with
      | true =>
        have := hw.mp hb
        omega
      | false => rfl
    have ho : Off oC M (zw (zw M 5 0 0 1 (iz kd)) 5 0 0 2 (iz at_)) := ((Off.rf M).w _ (by unfold oC; omega)).w _ (by unfold oC; omega)
    refine h _ ho ?_
    rw [alS_0 hb q]
    refine ⟨hT.oc ho, ⟨a, ham, ((zw_ne (by omega)).trans (zw_ne (by omega))).trans ha8, hak⟩, ⟨(zw_ne (by omega)).trans zw_eq, by show 0 ≤ kd; omega, by show kd ≤ 5; omega⟩, zw_eq, ?_⟩
    show ρ.1 = true ↔ kd = 1
    rw [hb]
    exact ⟨fun z => (by cases z), fun z => (by omega)⟩
/-- note, when the fault stands already -/
theorem c_note0 {x y : Int32} (hR : cR M tp n m ρ) (h0 : ρ.2.2.1 ≠ 0) (h : Q none M) : zEv Γ 86 [zo 5 0 0, zi x, zi y] M Q := by
  obtain ⟨hT, ⟨a, ham, ha8, hak⟩, hf, hp, hw⟩ := hR
  refine en_86 (bk_86_0 ?_)
  rw [hf.1, show (iz ρ.2.2.1 = 0) = (ρ.2.2.1 = 0) by rw [iz0, iz_eq (by omega) (by omega) (by omega) (by omega)]]
  exact ⟨fun _ => h, fun q => absurd q h0⟩
theorem c_stumble {x : Int32} {w : Int} (j : Nat) (hR : cR M tp n m ρ) (hx : ρ.1 = false → x = iz w) (h : ∀ M', Off oC M M' → cR M' tp n m (if ρ.1 = true then ρ else (true, j, 1, w)) → Q none M') : zEv Γ 87 [zo 5 0 0, zi x] M Q := by
  have hR0 := hR
  obtain ⟨hT, ⟨a, ham, ha8, hak⟩, hf, hp, hw⟩ := hR
  refine en_87 (bk_87_0 ?_)
  rw [hf.1, show (iz ρ.2.2.1 = 1) = (ρ.2.2.1 = 1) by rw [iz1, iz_eq (by omega) (by omega) (by omega) (by omega)]]
  refine ⟨fun q => h M (Off.rf M) ?_, fun q => ?_⟩
  · rw [if_pos (hw.mpr q)]
    exact hR0
  · have hb : ¬ ρ.1 = true := fun z => q (hw.mp z)
    have ho : Off oC M (zw (zw M 5 0 0 1 1) 5 0 0 2 x) := ((Off.rf M).w _ (by unfold oC; omega)).w _ (by unfold oC; omega)
    refine h _ ho ?_
    rw [if_neg hb]
    refine ⟨hT.oc ho, ⟨a, ham, ((zw_ne (by omega)).trans (zw_ne (by omega))).trans ha8, fun z => by cases z⟩, ⟨((zw_ne (by omega)).trans zw_eq).trans iz1, (by show (0 : Int) ≤ 1; decide), (by show (1 : Int) ≤ 5; decide)⟩, ?_, ⟨fun _ => rfl, fun _ => rfl⟩⟩
    rw [zw_eq]
    exact hx (by cases hc : ρ.1 with
      | true => exact absurd hc hb
      | false => rfl)
theorem c_goOn (hR : cR M tp n m ρ) (hk : ρ.1 = false → tkK tp n ρ.2.1 ≠ 0) (h : ∀ M', Off oC M M' → cR M' tp n m (nxS ρ) → Q none M') : zEv Γ 85 [zo 5 0 0] M Q := by
  obtain ⟨hT, ⟨a, ham, ha8, hak⟩, hf, hp, hw⟩ := hR
  have hm := hT.2.2.2.2.1
  refine en_85 (bk_85_0 ?_)
  rw [ha8, hT.2.2.2.1, iz_le (by omega) (by omega) (by omega) (by omega)]
  refine ⟨fun q => h M (Off.rf M) ⟨hT, ⟨a, ham, ha8, fun z => ?_⟩, hf, hp, hw⟩, fun q => ?_⟩
  · have z' : ρ.1 = false := z
    have e := hak z'
    have h1 := hk z'
    rw [← e, show a = m by omega] at h1
    exact absurd hT.2.2.2.2.2.1 h1
  · rw [iz_s]
    have ho : Off oC M (zw M 5 0 0 8 (iz ((a + 1 : Nat) : Int))) := (Off.rf M).w _ (by unfold oC; omega)
    exact h _ ho ⟨hT.oc ho, ⟨a + 1, by omega, zw_eq, fun z => by have := hak z; show a + 1 = ρ.2.1 + 1; omega⟩, ⟨(zw_ne (by omega)).trans hf.1, hf.2⟩, (zw_ne (by omega)).trans hp, hw⟩
theorem c_takeNumber {la ha lo hi : Int} (hR : cR M tp n m ρ) (hB : pB tp n ρ) (hla : 0 ≤ la ∧ la ≤ 10) (hha : -1 ≤ ha ∧ ha ≤ 9999) (he : ρ.1 = false → ρ.2.2.1 = 0 → la = lo ∧ ha = hi) (h : ∀ (M' : zM) (v : Int), Off oC M M' → cR M' tp n m (nuS tp n ρ lo hi).1 → -1 ≤ v → v ≤ 9999 → ((nuS tp n ρ lo hi).1.1 = false → (nuS tp n ρ lo hi).1.2.2.1 = 0 → (nuS tp n ρ lo hi).2.1 = true ∧ v = (nuS tp n ρ lo hi).2.2) → Q (some (zi (iz v))) M') : zEv Γ 83 [zo 5 0 0, zi (iz la), zi (iz ha)] M Q := by
  have hR0 := hR
  obtain ⟨hT, ⟨a, ham, ha8, hak⟩, hf, hp, hw⟩ := hR
  have hm := hT.2.2.2.2.1
  have hn := hT.2.2.2.2.2.2.2.1
  have hb255 := hT.2.2.2.2.2.2.2.2
  have kb := tkK_b (tp := tp) (n := n) (k := a)
  have in5 : vp_in (iz (a : Int)) 501 := iz_inN (by omega) (by omega)
  have nb := tkN_b (tp := tp) (n := n) (k := a) hb255
  refine en_83 (bk_83_0 ?_)
  rw [ha8, iz_clN (by omega), hT.1 a ham, hT.2.1 a ham, show (iz ((tkK tp n a : Nat) : Int) = 1) = (tkK tp n a = 1) by rw [iz1, iz_eq (by omega) (by omega) (by omega) (by omega)]; exact propext ⟨fun z => by omega, fun z => by omega⟩, iz_m1]
  refine ⟨in5, in5, fun k1 => ⟨in5, ?_⟩, fun k1 => ?_⟩
  · rw [hT.2.2.1 a ham k1, iz_lt (by omega) (by omega) (by omega) (by omega), iz_le (by omega) (by omega) (by omega) (by omega)]
    refine c_goOn hR0 (fun z => by rw [← hak z, k1]; omega) (fun M1 o1 R1 => ⟨rfl, ?_⟩)
    cases hb : ρ.1 with
    | true =>
      have eN : (nuS tp n ρ lo hi).1 = ρ := by
        unfold nuS
        rw [if_pos (Or.inl hb)]
        exact edS_w hb
      rw [eN] at h
      have R1' : cR M1 tp n m ρ := R1.wr hb hb rfl
      have f1 : ρ.2.2.1 ≠ 0 := by have := hw.mp hb; omega
      have nv : ∀ v : Int, -1 ≤ v → v ≤ 9999 → Q (some (zi (iz v))) M1 := fun v h1 h2 => h M1 v o1 R1' h1 h2 (fun z => by rw [hb] at z; cases z)
      have nn : ∀ x y : Int32, zEv Γ 86 [zo 5 0 0, zi x, zi y] M1 (fun o M2 => o = none ∧ Q (some (zi (iz (-1)))) M2) := fun x y => c_note0 R1' f1 ⟨rfl, nv (-1) (by omega) (by omega)⟩
      exact ⟨fun _ => nn _ _, fun _ => ⟨fun _ => nv _ (by omega) (by omega), fun _ => nn _ _⟩⟩
    | false =>
      have ek := hak hb
      subst ek
      by_cases f0 : ρ.2.2.1 = 0
      · obtain ⟨rfl, rfl⟩ := he hb f0
        have nc : ¬ (ρ.1 = true ∨ tkK tp n ρ.2.1 ≠ 1) := by
          rintro (z | z)
          · rw [hb] at z; cases z
          · exact z k1
        have out : ¬ (la ≤ tkN tp n ρ.2.1 ∧ tkN tp n ρ.2.1 ≤ ha) → zEv Γ 86 [zo 5 0 0, zi 2, zi (iz ((tkW tp n ρ.2.1 : Nat) : Int))] M1 (fun o M2 => o = none ∧ Q (some (zi (iz (-1)))) M2) := fun z => by
          have eN : (nuS tp n ρ la ha).1 = nxS (alS ρ 2 ((tkW tp n ρ.2.1 : Nat) : Int)) := by
            unfold nuS
            rw [if_neg nc, if_neg z]
          rw [eN] at h
          refine c_note (kd := 2) R1 (by omega) (fun _ z2 => absurd f0 z2) (fun M2 o2 R2 => ⟨rfl, h M2 (-1) (o1.tr o2) ?_ (by omega) (by omega) ?_⟩)
          · rw [← al_nx]
            exact R2
          · intro _ z2
            rw [alS_0 hb f0] at z2
            exact absurd z2 (by show ¬ (2 : Int) = 0; omega)
        refine ⟨fun z => out (by omega), fun z => ⟨fun z2 => ?_, fun z2 => out (by omega)⟩⟩
        have eN : nuS tp n ρ la ha = (nxS ρ, true, tkN tp n ρ.2.1) := by
          unfold nuS
          rw [if_neg nc, if_pos ⟨by omega, z2⟩]
        rw [eN] at h
        exact h M1 _ o1 R1 (by omega) (by omega) (fun _ _ => ⟨rfl, rfl⟩)
      · have nc : ¬ (ρ.1 = true ∨ tkK tp n ρ.2.1 ≠ 1) := by
          rintro (z | z)
          · rw [hb] at z; cases z
          · exact z k1
        have eN : (nuS tp n ρ lo hi).1 = nxS ρ := by
          unfold nuS
          rw [if_neg nc]
          split
          · rfl
          · rw [alS_f f0 (Or.inl (hB hb f0))]
        rw [eN] at h
        have nv : ∀ v : Int, -1 ≤ v → v ≤ 9999 → Q (some (zi (iz v))) M1 := fun v h1 h2 => h M1 v o1 R1 h1 h2 (fun _ z => absurd z f0)
        have nn : ∀ x y : Int32, zEv Γ 86 [zo 5 0 0, zi x, zi y] M1 (fun o M2 => o = none ∧ Q (some (zi (iz (-1)))) M2) := fun x y => c_note0 R1 f0 ⟨rfl, nv (-1) (by omega) (by omega)⟩
        exact ⟨fun _ => nn _ _, fun _ => ⟨fun _ => nv _ (by omega) (by omega), fun _ => nn _ _⟩⟩
  · have eN : (ρ.1 = true ∨ tkK tp n ρ.2.1 ≠ 1) := by
      cases hb : ρ.1 with
      | true => exact Or.inl rfl
      | false => exact Or.inr (by rw [← hak hb]; exact k1)
    have eN2 : (nuS tp n ρ lo hi).1 = edS tp n ρ := by
      unfold nuS
      rw [if_pos eN]
    rw [eN2] at h
    refine c_stumble (w := ((tkW tp n a : Nat) : Int)) ρ.2.1 hR0 (fun _ => rfl) (fun M2 o2 R2 => ⟨rfl, h M2 (-1) o2 ?_ (by omega) (by omega) (fun z => by rw [edS_t] at z; cases z)⟩)
    unfold edS
    cases hb : ρ.1 with
    | true =>
      rw [hb] at R2
      exact R2
    | false =>
      rw [hb, hak hb] at R2
      exact R2
theorem c_takeStop (hR : cR M tp n m ρ) (h : ∀ M', Off oC M M' → cR M' tp n m (finS tp n ρ) → Q none M') : zEv Γ 84 [zo 5 0 0] M Q := by
  have hR0 := hR
  obtain ⟨hT, ⟨a, ham, ha8, hak⟩, hf, hp, hw⟩ := hR
  have hm := hT.2.2.2.2.1
  have kb := tkK_b (tp := tp) (n := n) (k := a)
  have in5 : vp_in (iz (a : Int)) 501 := iz_inN (by omega) (by omega)
  refine en_84 (bk_84_0 ?_)
  rw [ha8, iz_clN (by omega), hT.1 a ham, hT.2.1 a ham, show (iz ((tkK tp n a : Nat) : Int) = 2) = (tkK tp n a = 2) by rw [show (2 : Int32) = iz 2 from rfl, iz_eq (by omega) (by omega) (by omega) (by omega)]; exact propext ⟨fun z => by omega, fun z => by omega⟩]
  refine ⟨in5, fun k2 => ⟨in5, ?_⟩, fun k2 => ?_⟩
  · have eN : (ρ.1 = true ∨ tkK tp n ρ.2.1 ≠ 2) := by
      cases hb : ρ.1 with
      | true => exact Or.inl rfl
      | false => exact Or.inr (by rw [← hak hb]; exact k2)
    have eF : finS tp n ρ = edS tp n ρ := by
      unfold finS
      rw [if_pos eN]
    rw [eF] at h
    refine c_stumble (w := ((tkW tp n a : Nat) : Int)) ρ.2.1 hR0 (fun _ => rfl) (fun M2 o2 R2 => ⟨rfl, h M2 o2 ?_⟩)
    unfold edS
    cases hb : ρ.1 with
    | true =>
      rw [hb] at R2
      exact R2
    | false =>
      rw [hb, hak hb] at R2
      exact R2
  · refine c_goOn hR0 (fun z => by rw [← hak z, k2]; omega) (fun M1 o1 R1 => ⟨rfl, h M1 o1 ?_⟩)
    cases hb : ρ.1 with
    | true =>
      have eF : finS tp n ρ = ρ := by
        unfold finS
        rw [if_pos (Or.inl hb)]
        exact edS_w hb
      rw [eF]
      exact R1.wr hb hb rfl
    | false =>
      have eF : finS tp n ρ = nxS ρ := by
        unfold finS
        rw [if_neg]
        rintro (z | z)
        · rw [hb] at z
          cases z
        · exact z (by rw [← hak hb]; exact k2)
      rw [eF]
      exact R1
end Z91
