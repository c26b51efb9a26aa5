/-! the class reads a text -/
def qFin (n : Nat) (b : RP × SB) : Int × Int := if b.1.2.2.1 = 0 ∧ (b.2 0 = 0 ∨ b.2 1 = 0) then (5, (n : Int)) else (b.1.2.2.1, b.1.2.2.2)
def oTx (c t _f _i : Nat) : Prop := (c = 5 ∧ t = 0) ∨ (c = 7 ∧ t = 12)
section Za4
variable {Γ : zC} {Q : zQ} {M : zM} {tp : Nat → Int} {n : Nat}
theorem c_readText (hsr : zSr Γ) (hT : cTp M tp n) (h : ∀ (M' : zM) (N : Nat), Off oTx M M' → N ≤ 500 → (∀ j, j < N → ¬ qEnd tp n I0 j) → qEnd tp n I0 N → ((lnQ tp n I0 N).1.1 = true → (lnQ tp n I0 N).1.2.2.1 = 1) → M'.1 5 0 0 1 = iz (qFin n (lnQ tp n I0 N)).1 → M'.1 5 0 0 2 = iz (qFin n (lnQ tp n I0 N)).2 → (0 ≤ (qFin n (lnQ tp n I0 N)).1 ∧ (qFin n (lnQ tp n I0 N)).1 ≤ 5) → ((qFin n (lnQ tp n I0 N)).1 = 0 → cS M' 12 (lnQ tp n I0 N).2 ∧ SOK (lnQ tp n I0 N).2) → Q none M') : zEv Γ 64 [zo 5 0 0, zo 8 0 0] M Q := by
  have hn := hT.2.1
  refine en_64 (bk_64_0 (c_scanTokens hsr hT (fun M1 m o1 k1 => ⟨rfl, c_clearSale (fun M2 o2 c2 => ⟨rfl, ?_⟩)⟩)))
  obtain ⟨N, hNm, hN, hN0⟩ := stop_ex (R0 := I0) k1.2.2.2.2.2.1
  have hm5 := k1.2.2.2.2.1
  have oT : ∀ {A B : zM}, Off oL2 A B → Off oTx A B := fun o => o.wk (by unfold oL2 oTx; intro c t f i; omega)
  have oTc : ∀ {A B : zM}, Off oC A B → Off oTx A B := fun o => o.wk (by unfold oC oTx; intro c t f i; omega)
  have main : ∀ (d j : Nat) (M3 : zM) (T : SB), j + d = N → Off oTx M M3 → cRL M3 tp n m (lnQ tp n I0 j).1 T (lnQ tp n I0 j).2 → M3.1 5 0 0 3 = iz (j : Int) → (41 ≤ j → (lnQ tp n I0 j).1.1 = false → (lnQ tp n I0 j).1.2.2.1 ≠ 0) → zGo Γ 64 Q 34 [some (zo 5 0 0), some (zo 8 0 0), some (zi (iz (j : Int)))] [] M3 := by
    intro d
    induction d with
    | zero =>
      intro j M3 T hj o3 hL hl h41
      have e : j = N := by omega
      subst e
      have hL0 := hL
      obtain ⟨hR, hB, hC, hW, hE⟩ := hL
      have hR0 := hR
      obtain ⟨hTk, ⟨a, ham, ha8, hak⟩, hf, hp, hw⟩ := hR
      have t0 : 0 ≤ T 0 ∧ T 0 ≤ 6 := hW.r (by omega) ⟨rfl, rfl⟩
      have t1 : 0 ≤ T 1 ∧ T 1 ≤ 7 := hW.r (by omega) ⟨rfl, rfl⟩
      have kb := tkK_b (tp := tp) (n := n) (k := a)
      have ln : M3.1 8 0 0 1 = iz (n : Int) := (o3.1 _ _ _ _ (by unfold oTx; omega)).trans hT.1
      have ex : (((M3.1 7 12 0 0) = 0 → (zEv Γ 86 [zo 5 0 0, zi (5 : Int32), zi (M3.1 8 0 0 1)] M3 (fun o M1 => o = none ∧ Q none M1))) ∧ (¬ (M3.1 7 12 0 0) = 0 → ((¬ (M3.1 7 12 0 1) = 0 → Q none M3) ∧ ((M3.1 7 12 0 1) = 0 → (zEv Γ 86 [zo 5 0 0, zi (5 : Int32), zi (M3.1 8 0 0 1)] M3 (fun o M2 => o = none ∧ Q none M2)))))) := by
        rw [hC.1 0 (by omega), hC.1 1 (by omega), ln, show (iz (T 0) = 0) = (T 0 = 0) by rw [iz0, iz_eq (by omega) (by omega) (by omega) (by omega)], show (iz (T 1) = 0) = (T 1 = 0) by rw [iz0, iz_eq (by omega) (by omega) (by omega) (by omega)]]
        by_cases f0 : (lnQ tp n I0 j).1.2.2.1 = 0
        · have hb : (lnQ tp n I0 j).1.1 = false := by
            cases hb : (lnQ tp n I0 j).1.1 with
            | true =>
              have := hw.mp hb
              omega
            | false => rfl
          have eT := hE hb f0
          subst eT
          have few : ((lnQ tp n I0 j).2 0 = 0 ∨ (lnQ tp n I0 j).2 1 = 0) → zEv Γ 86 [zo 5 0 0, zi (5 : Int32), zi (iz (n : Int))] M3 (fun o M1 => o = none ∧ Q none M1) := fun z => by
            have e5 : qFin n (lnQ tp n I0 j) = (5, (n : Int)) := by
              unfold qFin
              rw [if_pos ⟨f0, z⟩]
            have h := fun (M' : zM) => h M' j
            rw [e5] at h
            refine c_note (kd := 5) hR0 (by omega) (fun _ y => absurd f0 y) (fun M4 o4 R4 => ⟨rfl, ?_⟩)
            rw [alS_0 hb f0] at R4
            exact h M4 (o3.tr (oTc o4)) (by omega) hN0 hN hw.mp R4.2.2.1.1 R4.2.2.2.1 (by show (0 : Int) ≤ 5 ∧ (5 : Int) ≤ 5; omega) (fun y => absurd y (by show ¬ (5 : Int) = 0; omega))
          refine ⟨fun z => few (Or.inl z), fun z => ⟨fun z2 => ?_, fun z2 => few (Or.inr z2)⟩⟩
          have e5 : qFin n (lnQ tp n I0 j) = ((lnQ tp n I0 j).1.2.2.1, (lnQ tp n I0 j).1.2.2.2) := by
            unfold qFin
            rw [if_neg (by rintro ⟨_, y | y⟩; exact z y; exact z2 y)]
          have h := fun (M' : zM) => h M' j
          rw [e5] at h
          exact h M3 o3 (by omega) hN0 hN hw.mp hf.1 hp hf.2 (fun _ => ⟨hC, hW.sok z z2⟩)
        · have e5 : qFin n (lnQ tp n I0 j) = ((lnQ tp n I0 j).1.2.2.1, (lnQ tp n I0 j).1.2.2.2) := by
            unfold qFin
            rw [if_neg (fun y => f0 y.1)]
          have h := fun (M' : zM) => h M' j
          rw [e5] at h
          have done : Q none M3 := h M3 o3 (by omega) hN0 hN hw.mp hf.1 hp hf.2 (fun y => absurd y f0)
          exact ⟨fun _ => c_note0 hR0 f0 ⟨rfl, done⟩, fun _ => ⟨fun _ => done, fun _ => c_note0 hR0 f0 ⟨rfl, done⟩⟩⟩
      refine bk_64_34 ⟨fun _ => ex, fun _ => ⟨by rw [ha8]; exact iz_inN (by omega) (by omega), fun _ => ex, fun z => ⟨fun _ => ex, fun z2 => ?_⟩⟩⟩
      exfalso
      rw [ha8, iz_clN (by omega), hTk.1 a ham] at z
      rw [hf.1] at z2
      rcases hN with y | y
      · have := hw.mp y
        rw [this] at z2
        exact z2 rfl
      · cases hb : (lnQ tp n I0 j).1.1 with
        | true =>
          have := hw.mp hb
          rw [this] at z2
          exact z2 rfl
        | false =>
          rw [hak hb, y] at z
          exact z rfl
    | succ d ih =>
      intro j M3 T hj o3 hL hl h41
      have ns := hN0 j (by omega)
      have hw : (lnQ tp n I0 j).1.1 = false := by
        cases hb : (lnQ tp n I0 j).1.1 with
        | true => exact absurd (Or.inl hb) ns
        | false => rfl
      have hk : tkK tp n (lnQ tp n I0 j).1.2.1 ≠ 0 := fun z => ns (Or.inr z)
      have hL0 := hL
      obtain ⟨hR, hB, hC, hW, hE⟩ := hL
      obtain ⟨hTk, ⟨a, ham, ha8, hak⟩, hf, hp, hww⟩ := hR
      have ea := hak hw
      have kb := tkK_b (tp := tp) (n := n) (k := a)
      refine bk_64_34 ⟨fun z => ?_, fun _ => ⟨by rw [ha8]; exact iz_inN (by omega) (by omega), fun z => ?_, fun _ => ⟨fun z => ?_, fun _ => ?_⟩⟩⟩
      · exfalso
        rw [show (500 : Int32) = iz 500 from rfl, iz_le (by omega) (by omega) (by omega) (by omega)] at z
        omega
      · exfalso
        rw [ha8, iz_clN (by omega), hTk.1 a ham, iz0, iz_eq (by omega) (by omega) (by omega) (by omega), ea] at z
        omega
      · exfalso
        rw [hf.1, iz1, iz_eq (by omega) (by omega) (by omega) (by omega)] at z
        have := hww.mpr z
        rw [hw] at this
        cases this
      · refine c_readLine hw hk hL0 hl (by omega) (fun z => h41 z hw) (fun M4 T4 o4 L4 l4 => ⟨rfl, ?_⟩)
        rw [iz_s]
        refine ih (j + 1) M4 T4 (by omega) (o3.tr (oT o4)) L4 l4 (fun z y f0 => ?_)
        have q := ln_f0 (ρ := (lnQ tp n I0 j).1) (R := (lnQ tp n I0 j).2) (ln := j) hw hB y f0
        exact h41 (by omega) hw q.1
  have o12 : Off oTx M M2 := (o1.wk (by unfold oSc oTx; intro c t f i; omega)).tr (o2.wk (by unfold oSale oTx; intro c t f i; omega))
  have o3 : Off oTx M (zw (zw (zw (zw M2 5 0 0 1 (0 : Int32)) 5 0 0 2 (-1 : Int32)) 5 0 0 3 (0 : Int32)) 5 0 0 8 (0 : Int32)) := (((o12.w _ (by unfold oTx; omega)).w _ (by unfold oTx; omega)).w _ (by unfold oTx; omega)).w _ (by unfold oTx; omega)
  have ow : Off (fun c t f i => c = 5 ∧ t = 0 ∧ f = 0 ∧ (i = 1 ∨ i = 2 ∨ i = 3 ∨ i = 8)) M2 (zw (zw (zw (zw M2 5 0 0 1 (0 : Int32)) 5 0 0 2 (-1 : Int32)) 5 0 0 3 (0 : Int32)) 5 0 0 8 (0 : Int32)) := ((((Off.rf M2).w _ (by omega)).w _ (by omega)).w _ (by omega)).w _ (by omega)
  refine main N 0 _ I0 (by omega) o3 ⟨⟨?_, ⟨0, Nat.zero_le _, zw_eq, fun _ => rfl⟩, ⟨?_, by show (0 : Int) ≤ 0; omega, by show (0 : Int) ≤ 5; omega⟩, ?_, ?_⟩, fun _ z => absurd rfl z, ?_, WK_I0, fun _ _ => rfl⟩ ?_ (fun z => by omega)
  · exact (k1.off o2 (by unfold oSale; intro f i _; omega) (by unfold oSale; omega)).off ow (by intro f i _; omega) (by omega)
  · rw [zw_ne (by omega), zw_ne (by omega), zw_ne (by omega), zw_eq]
    rfl
  · rw [zw_ne (by omega), zw_ne (by omega), zw_eq]
    rfl
  · exact ⟨fun z => (by cases z), fun z => absurd z (by show ¬ (0 : Int) = 1; omega)⟩
  · exact c2.off ow (by intro f i; omega)
  · rw [zw_ne (by omega), zw_eq]
    rfl
end Za4
