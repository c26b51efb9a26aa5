/-! the lines one after the other -/
def lnQ (tp : Nat → Int) (n : Nat) (R0 : SB) : Nat → RP × SB
  | 0 => ((false, 0, 0, -1), R0)
  | j + 1 => lnS tp n (lnQ tp n R0 j).1 (lnQ tp n R0 j).2 j
def qEnd (tp : Nat → Int) (n : Nat) (R0 : SB) (j : Nat) : Prop := (lnQ tp n R0 j).1.1 = true ∨ tkK tp n (lnQ tp n R0 j).1.2.1 = 0
def I0 : SB := fun k => if k = 2 then 1 else if 24 ≤ k ∧ k < 31 then 1 else if 31 ≤ k ∧ k < 38 then 9999 else 0
theorem least_ex {P : Nat → Prop} : ∀ m, P m → ∃ N, N ≤ m ∧ P N ∧ ∀ j, j < N → ¬ P j := by
  intro m
  induction m using Nat.strongRecOn with
  | ind m ih =>
    intro hm
    by_cases h : ∃ j, j < m ∧ P j
    · obtain ⟨j, hj, hp⟩ := h
      obtain ⟨N, h1, h2, h3⟩ := ih j hj hp
      exact ⟨N, by omega, h2, h3⟩
    · exact ⟨m, Nat.le_refl m, hm, fun j hj hp => h ⟨j, hj, hp⟩⟩
section Z99
variable {tp : Nat → Int} {n : Nat} {ρ : RP} {lo hi : Int} {R R0 : SB} {at_ : Int}
theorem ed_kk : (edS tp n ρ).2.1 = ρ.2.1 := by
  unfold edS
  split <;> rfl
theorem nu_kk : ρ.2.1 ≤ (nuS tp n ρ lo hi).1.2.1 := by
  unfold nuS
  split
  · dsimp only
    rw [ed_kk]
    exact Nat.le_refl _
  · split
    · show ρ.2.1 ≤ ρ.2.1 + 1
      omega
    · have e := (alS_k ρ 2 ((tkW tp n ρ.2.1 : Nat) : Int)).2
      show ρ.2.1 ≤ (alS ρ 2 ((tkW tp n ρ.2.1 : Nat) : Int)).2.1 + 1
      omega
theorem tw_kk : ρ.2.1 ≤ (twS tp n ρ R).1.2.1 := by
  have h1 : ρ.2.1 ≤ (oneS tp n ρ R).1.2.1 := nu_kk
  have h2 : (oneS tp n ρ R).1.2.1 ≤ (oneS tp n (oneS tp n ρ R).1 R).1.2.1 := nu_kk
  unfold twS
  split
  · split
    · exact Nat.le_trans (Nat.le_trans h1 h2) (Nat.le_of_eq (alS_k _ _ _).2.symm)
    · exact Nat.le_trans h1 h2
  · exact Nat.le_trans h1 h2
theorem mo_kk : ρ.2.1 ≤ (moS tp n ρ).1.2.1 := by
  unfold moS
  split
  · dsimp only
    rw [ed_kk]
    exact Nat.le_refl _
  · have h1 : (nxS ρ).2.1 ≤ (nuS tp n (nxS ρ) 0 999).1.2.1 := nu_kk
    have h2 : (nxS ρ).2.1 = ρ.2.1 + 1 := rfl
    dsimp only
    omega
end Z99
