section Z99
variable {tp : Nat → Int} {n : Nat} {ρ : RP} {lo hi : Int} {R R0 : SB} {at_ : Int}
theorem ln_kk {ln : Nat} (h : (lnS tp n ρ R ln).1.1 = false) : ρ.2.1 + 1 ≤ (lnS tp n ρ R ln).1.2.1 := by
  unfold lnS at h ⊢
  split at h
  · rw [edS_t] at h
    cases h
  · next hc =>
    rw [if_neg hc]
    have f := fin_0 h
    dsimp only at f ⊢
    rw [f.2.1]
    have h1 : (nxS (full ρ (ln = 40) ((tkW tp n ρ.2.1 : Nat) : Int))).2.1 ≤ (bodS tp n (tkK tp n ρ.2.1) (nxS (full ρ (ln = 40) ((tkW tp n ρ.2.1 : Nat) : Int))) R ((tkW tp n ρ.2.1 : Nat) : Int)).1.2.1 := bod_kk
    have h2 : (nxS (full ρ (ln = 40) ((tkW tp n ρ.2.1 : Nat) : Int))).2.1 = ρ.2.1 + 1 := by
      show (full ρ (ln = 40) ((tkW tp n ρ.2.1 : Nat) : Int)).2.1 + 1 = ρ.2.1 + 1
      rw [full_k.2]
    show ρ.2.1 + 1 ≤ (bodS tp n (tkK tp n ρ.2.1) (nxS (full ρ (ln = 40) ((tkW tp n ρ.2.1 : Nat) : Int))) R ((tkW tp n ρ.2.1 : Nat) : Int)).1.2.1 + 1
    omega
theorem al_0 {kd : Int} (hk : kd ≠ 0) (h : (alS ρ kd at_).2.2.1 = 0) : ρ.2.2.1 = 0 := by
  unfold alS at h
  split at h
  · exact h
  · exact absurd h hk
theorem full_f {b : Prop} [Decidable b] (h : (full ρ b at_).2.2.1 = 0) : ρ.2.2.1 = 0 := by
  unfold full at h
  split at h
  · exact al_0 (by omega) h
  · exact h
theorem nu_f (h1 : (nuS tp n ρ lo hi).1.1 = false) (h2 : (nuS tp n ρ lo hi).1.2.2.1 = 0) : ρ.1 = false ∧ ρ.2.2.1 = 0 := ⟨(nu_0 h1 h2).1, (nu_0 h1 h2).2.1⟩
theorem tw_f (h1 : (twS tp n ρ R).1.1 = false) (h2 : (twS tp n ρ R).1.2.2.1 = 0) : ρ.1 = false ∧ ρ.2.2.1 = 0 := by
  have q := tw_0 h1 h2
  have q1 := nu_f (lo := 0) (hi := R 1 - 1) q.1 q.2
  exact nu_f (lo := 0) (hi := R 1 - 1) q1.1 q1.2
end Z99
