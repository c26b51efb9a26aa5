section Z99
variable {tp : Nat → Int} {n : Nat} {ρ : RP} {lo hi : Int} {R R0 : SB} {at_ : Int}
theorem bod_0 {K : Nat} (h1 : (bodS tp n K ρ R at_).1.1 = false) (h2 : (bodS tp n K ρ R at_).1.2.2.1 = 0) : ρ.2.2.1 = 0 := by
  unfold bodS at h1 h2
  split at h1
  · next hk =>
    rw [if_pos hk] at h2
    unfold boS at h1 h2
    split at h1
    · next hc =>
      rw [if_pos hc] at h2
      exact full_f (nu_f h1 h2).2
    · next hc =>
      rw [if_neg hc] at h2
      dsimp only at h1 h2
      split at h1
      · next hd =>
        rw [if_pos hd] at h2
        exact (nu_f ((alS_k _ _ _).1.symm.trans h1) (al_0 (by omega) h2)).2
      · next hd =>
        rw [if_neg hd] at h2
        exact (nu_f h1 h2).2
  · next hk0 =>
    rw [if_neg hk0] at h2
    split at h1
    · next hk =>
      rw [if_pos hk] at h2
      unfold biS at h1 h2
      split at h1
      · next hc =>
        rw [if_pos hc] at h2
        have q := nu_f h1 h2
        exact full_f (nu_f q.1 q.2).2
      · next hc =>
        rw [if_neg hc] at h2
        have q := nu_f h1 h2
        exact (nu_f q.1 q.2).2
    · next hk1 =>
      rw [if_neg hk1] at h2
      split at h1
      · next hk =>
        rw [if_pos hk] at h2
        have q := nu_f h1 h2
        exact (nu_f (lo := 0) (hi := R 1 - 1) q.1 q.2).2
      · next hk2 =>
        rw [if_neg hk2] at h2
        split at h1
        · next hk =>
          rw [if_pos hk] at h2
          have q := nu_f h1 h2
          exact (nu_f (lo := 0) (hi := R 1 - 1) q.1 q.2).2
        · next hk3 =>
          rw [if_neg hk3] at h2
          split at h1
          · next hk =>
            rw [if_pos hk] at h2
            have q := mo_0 h1 h2
            have q2 := nu_f (lo := 0) (hi := R 0 - 1) q.1 q.2.1
            exact (nu_f (lo := 0) (hi := R 1 - 1) q2.1 q2.2).2
          · next hk4 =>
            rw [if_neg hk4] at h2
            split at h1
            · next hk =>
              rw [if_pos hk] at h2
              have fin : (nuS tp n (nuS tp n (oneS tp n ρ R).1 0 99).1 1 9).1.1 = false → (nuS tp n (nuS tp n (oneS tp n ρ R).1 0 99).1 1 9).1.2.2.1 = 0 → ρ.2.2.1 = 0 := fun z1 z2 => by
                have q := nu_f z1 z2
                have q2 := nu_f (lo := 0) (hi := 99) q.1 q.2
                exact (nu_f (lo := 0) (hi := R 1 - 1) q2.1 q2.2).2
              unfold soS at h1 h2
              dsimp only at h1 h2
              split at h1
              · next hc =>
                rw [if_pos hc] at h2
                exact fin h1 h2
              · next hc =>
                rw [if_neg hc] at h2
                split at h1
                · next hd =>
                  rw [if_pos hd] at h2
                  exact fin ((alS_k _ _ _).1.symm.trans h1) (al_0 (by omega) h2)
                · next hd =>
                  rw [if_neg hd] at h2
                  exact fin h1 h2
            · next hk5 =>
              rw [if_neg hk5] at h2
              split at h1
              · next hk =>
                rw [if_pos hk] at h2
                have q := mo_0 h1 h2
                exact (tw_f q.1 q.2.1).2
              · next hk6 =>
                rw [if_neg hk6] at h2
                split at h1
                · next hk =>
                  rw [if_pos hk] at h2
                  exact (tw_f h1 h2).2
                · next hk7 =>
                  rw [if_neg hk7] at h2
                  split at h1
                  · next hk =>
                    rw [if_pos hk] at h2
                    unfold wyB at h1 h2
                    split at h1
                    · rw [edS_t] at h1
                      cases h1
                    · next hc =>
                      rw [if_neg hc] at h2
                      exact h2
                  · next hk8 =>
                    rw [if_neg hk8] at h2
                    exact (nu_f h1 h2).2
end Z99
