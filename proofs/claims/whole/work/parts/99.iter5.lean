section Z99
variable {tp : Nat → Int} {n : Nat} {ρ : RP} {lo hi : Int} {R R0 : SB} {at_ : Int}
theorem ln_f0 {ln : Nat} (hw : ρ.1 = false) (hB : pB tp n ρ) (h1 : (lnS tp n ρ R ln).1.1 = false) (h2 : (lnS tp n ρ R ln).1.2.2.1 = 0) : ρ.2.2.1 = 0 ∧ ln ≠ 40 := by
  unfold lnS at h1 h2
  split at h1
  · rw [edS_t] at h1
    cases h1
  · next hc =>
    rw [if_neg hc] at h2
    have f := fin_0 h1
    dsimp only at h2 f
    rw [f.2.1] at h2
    have q := bod_0 f.1 h2
    have q2 : (full ρ (ln = 40) ((tkW tp n ρ.2.1 : Nat) : Int)).2.2.1 = 0 := q
    have q3 := full_0 hw (fun z => Or.inl (hB hw z)) q2
    exact ⟨q3.1, q3.2.1⟩
theorem tkz {m : Nat} (h : tkK tp n m = 0) : ∀ k, m ≤ k → tkK tp n k = 0 := by
  intro k hk
  obtain ⟨d, rfl⟩ := Nat.le.dest hk
  rw [tkK_0] at h ⊢
  have : ∀ d, tkW tp n (m + d) = n := by
    intro d
    induction d with
    | zero => exact h
    | succ d ih => exact (tk_end (k := m + d) ih).2
  exact this d
theorem lnQ_kk : ∀ j, (∀ i, i < j → ¬ qEnd tp n R0 i) → (lnQ tp n R0 j).1.1 = false → j ≤ (lnQ tp n R0 j).1.2.1
  | 0, _, _ => Nat.zero_le _
  | j + 1, hs, hw => by
    have hj : (lnQ tp n R0 j).1.1 = false := by
      cases hx : (lnQ tp n R0 j).1.1 with
      | true => exact absurd (Or.inl hx) (hs j (by omega))
      | false => rfl
    have ih := lnQ_kk j (fun i hi => hs i (by omega)) hj
    have := ln_kk (ρ := (lnQ tp n R0 j).1) (R := (lnQ tp n R0 j).2) (ln := j) hw
    show j + 1 ≤ (lnS tp n (lnQ tp n R0 j).1 (lnQ tp n R0 j).2 j).1.2.1
    omega
theorem stop_ex {m : Nat} (hm : tkK tp n m = 0) : ∃ N, N ≤ m ∧ qEnd tp n R0 N ∧ ∀ j, j < N → ¬ qEnd tp n R0 j := by
  by_cases h : ∃ j, j ≤ m ∧ qEnd tp n R0 j
  · obtain ⟨j, hj, hp⟩ := h
    obtain ⟨N, h1, h2, h3⟩ := least_ex j hp
    exact ⟨N, by omega, h2, h3⟩
  · exfalso
    have ns : ∀ i, i ≤ m → ¬ qEnd tp n R0 i := fun i hi z => h ⟨i, hi, z⟩
    have hw : (lnQ tp n R0 m).1.1 = false := by
      cases hx : (lnQ tp n R0 m).1.1 with
      | true => exact absurd (Or.inl hx) (ns m (Nat.le_refl m))
      | false => rfl
    have := lnQ_kk m (fun i hi => ns i (by omega)) hw
    exact ns m (Nat.le_refl m) (Or.inr (tkz hm _ this))
theorem lnQ_RB (h : RB R0) : ∀ j, RB (lnQ tp n R0 j).2
  | 0 => h
  | j + 1 => RB_ln (lnQ_RB h j)
end Z99
