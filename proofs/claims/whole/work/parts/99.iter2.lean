section Z99
variable {tp : Nat → Int} {n : Nat} {ρ : RP} {lo hi : Int} {R R0 : SB} {at_ : Int}
theorem bod_kk {K : Nat} : ρ.2.1 ≤ (bodS tp n K ρ R at_).1.2.1 := by
  have fu : ∀ (b : Prop) [Decidable b], (full ρ b at_).2.1 = ρ.2.1 := fun b _ => full_k.2
  unfold bodS
  split
  · unfold boS
    split
    · have h1 : (full ρ (R 0 = 6) at_).2.1 ≤ (nuS tp n (full ρ (R 0 = 6) at_) 0 99).1.2.1 := nu_kk
      have := fu (R 0 = 6)
      dsimp only
      omega
    · have h1 : ρ.2.1 ≤ (nuS tp n ρ 0 99).1.2.1 := nu_kk
      dsimp only
      split
      · exact Nat.le_trans h1 (Nat.le_of_eq (alS_k _ _ _).2.symm)
      · exact h1
  · split
    · unfold biS
      split
      · have h1 : (full ρ (R 1 = 7) at_).2.1 ≤ (nuS tp n (full ρ (R 1 = 7) at_) 0 99).1.2.1 := nu_kk
        have h2 : (nuS tp n (full ρ (R 1 = 7) at_) 0 99).1.2.1 ≤ (nuS tp n (nuS tp n (full ρ (R 1 = 7) at_) 0 99).1 0 99).1.2.1 := nu_kk
        have := fu (R 1 = 7)
        dsimp only
        omega
      · exact Nat.le_trans (nu_kk (lo := 0) (hi := 99)) nu_kk
    · split
      · exact Nat.le_trans (nu_kk (lo := 0) (hi := R 1 - 1)) nu_kk
      · split
        · exact Nat.le_trans (nu_kk (lo := 0) (hi := R 1 - 1)) nu_kk
        · split
          · exact Nat.le_trans (Nat.le_trans (nu_kk (lo := 0) (hi := R 1 - 1)) (nu_kk (lo := 0) (hi := R 0 - 1))) mo_kk
          · split
            · have h0 : ρ.2.1 ≤ (nuS tp n (nuS tp n (oneS tp n ρ R).1 0 99).1 1 9).1.2.1 := Nat.le_trans (Nat.le_trans (nu_kk (lo := 0) (hi := R 1 - 1)) (nu_kk (lo := 0) (hi := 99))) nu_kk
              unfold soS
              dsimp only
              split
              · exact h0
              · split
                · exact Nat.le_trans h0 (Nat.le_of_eq (alS_k _ _ _).2.symm)
                · exact h0
            · split
              · exact Nat.le_trans tw_kk mo_kk
              · split
                · exact tw_kk
                · split
                  · unfold wyB
                    split
                    · dsimp only
                      rw [ed_kk]
                      exact Nat.le_refl _
                    · show ρ.2.1 ≤ ρ.2.1 + 1
                      omega
                  · exact nu_kk
end Z99
