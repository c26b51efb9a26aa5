section Z54
variable {Γ : zC} {Q : zQ} {M : zM} {b cnt t ts n : Nat} {S : SB} {SS : Nat → SB} {bd mk : Nat → Int}
theorem r_isRest {top : Nat} (hS : SOK S) (hB : rB M b S) (ht : M.1 10 0 0 21 = iz (-1)) (hb : rBd M (S 1).toNat bd (mkS S) (fun _ => false)) (hr : rng (S 1).toNat bd (mkS S)) (htop : top ≤ 99)
    (h : ∀ M', Off rRp M M' → rB M' b S → M'.1 10 0 0 21 = iz (-1) → rBd M' (S 1).toNat bd (mkS S) (fun _ => false) → Q (some (zi (iz (if (fnd (rstl S bd top) 0 (S 1).toNat).isNone = true then 1 else 0)))) M') : zEv Γ 209 [zo 10 0 0, zi (iz (top : Int))] M Q := by
  have h7 := hS.2.1
  refine en_209 (bk_209_0 (zloop (P := fun i M1 => Off rRp M M1 ∧ rB M1 b S ∧ M1.1 10 0 0 21 = iz (-1) ∧ rBd M1 (S 1).toNat bd (mkS S) (fun _ => false) ∧ fnd (rstl S bd top) 0 (S 1).toNat = fnd (rstl S bd top) i ((S 1).toNat - i)) (G := fun i M1 => zGo Γ 209 Q 4 [some (zo 10 0 0), some (zi (iz (top : Int))), some (zi 1), some (zi (iz (i : Int))), none] [] M1) (n := (S 1).toNat) ?_ ?_ (S 1).toNat 0 M (by omega) ⟨Off.rf M, hB, ht, hb, rfl⟩))
  · rintro M1 ⟨o1, B1, t1, b1, e⟩
    rw [show (S 1).toNat - (S 1).toNat = 0 by omega] at e
    have h := h M1 o1 B1 t1 b1
    rw [e] at h
    refine bk_209_4 ⟨fun _ => ⟨Or.inr rfl, h⟩, fun q => ?_⟩
    rw [B1.2.2.1, iz_le (by omega) (by omega) (by omega) (by omega)] at q
    omega
  · rintro i M1 hi ⟨o1, B1, t1, b1, e⟩ ih
    rw [show (S 1).toNat - i = ((S 1).toNat - (i + 1)) + 1 by omega, fnd_s i] at e
    refine bk_209_4 ⟨fun q => ?_, fun _ => ⟨fun q => absurd q (by decide), fun _ => ?_⟩⟩
    · rw [B1.2.2.1, iz_le (by omega) (by omega) (by omega) (by omega)] at q
      omega
    refine r_rep (bd := bd) (top := top) hS B1 t1 b1 hr (by omega) (by omega) (fun M3 o3 hB3 ht3 hb3 hL3 hg3 => ⟨_, rfl, r_gainA hS hB3 hL3 ht3 (by omega) ⟨_, rfl, ?_⟩⟩)
    have hrp := rep_le S bd i top
    have x1 := gX_b (bd := bd) hS hr (show i < (S 1).toNat by omega) (x := bd i) (hr i (by omega)).1
    have x2 := gX_b (bd := bd) hS hr (show i < (S 1).toNat by omega) (x := ((rep S bd i top : Nat) : Int)) (by omega)
    rw [hg3, iz_lt (by omega) (by omega) (by omega) (by omega), iz_s]
    refine ⟨fun q => ?_, fun q => ih M3 ⟨o1.tr o3, hB3, ht3, hb3, ?_⟩⟩
    · rw [if_pos (by unfold rstl; rw [decide_eq_true_iff]; exact q)] at e
      have h := h M3 (o1.tr o3) hB3 ht3 hb3
      rw [e] at h
      exact bk_209_4 ⟨fun _ => ⟨Or.inl rfl, h⟩, fun _ => ⟨fun _ => ⟨Or.inl rfl, h⟩, fun q => absurd rfl q⟩⟩
    · rw [if_neg (by unfold rstl; rw [decide_eq_true_iff]; exact q)] at e
      exact e
def rMk (M : zM) (n : Nat) (mk : Nat → Int) : Prop := ∀ i, i < n → M.1 10 0 17 i = iz (mk i) ∧ M.1 10 0 18 i = iz 0
theorem rMk.w {f i : Nat} {x : Int32} (h : rMk M n mk) (hf : f ≠ 17 ∧ f ≠ 18) : rMk (zw M 10 0 f i x) n mk := fun k hk => ⟨(zw_ne (by omega)).trans (h k hk).1, (zw_ne (by omega)).trans (h k hk).2⟩
theorem rMk.tbd (h : rMk M n mk) (hb : ∀ i, i < n → M.1 10 0 16 i = iz (bd i)) : rBd M n bd mk (fun _ => false) := fun k hk => ⟨hb k hk, (h k hk).1, (h k hk).2⟩
theorem rBd.tmk (h : rBd M n bd mk (fun _ => false)) : rMk M n mk := fun k hk => ⟨(h k hk).2.1, (h k hk).2.2⟩
theorem r_restsUpTo {top k : Nat} (hS : SOK S) (hB : rB M b S) (ht : M.1 10 0 0 21 = iz (-1)) (hm : rMk M (S 1).toNat (mkS S)) (h4 : S 1 ≤ 4) (htop : top ≤ 5) (hk : k ≤ 5000)
    (h : ∀ (M' : zM) (f : Nat) (g : Nat → Int), Off rSc M M' → f ≤ 1296 → (∀ i, i < (S 1).toNat → M'.1 10 0 28 i = iz (g i)) → RR S top k f g → Q (some (zi (iz (f : Int)))) M') : zEv Γ 210 [zo 10 0 0, zi (iz (top : Int)), zi (iz (k : Int))] M Q := by
  have h7 := hS.2.1
  have hrw : rwS S top ≤ 1296 := rws_le (by omega) (by omega) (by omega)
  have eB : iz (top : Int) + 1 = iz ((top + 1 : Nat) : Int) := iz_s top
  refine en_210 (bk_210_0 (nloop (G := fun i => zGo Γ 210 Q 8 [some (zo 10 0 0), some (zi (iz (top : Int))), some (zi (iz (k : Int))), some (zi 0), some (zi (iz ((rws (top + 1) i : Nat) : Int))), some (zi (iz (i : Int))), none, none] [] M) (n := (S 1).toNat) ?_ (fun i hi ih => ?_) (S 1).toNat 0 (by omega)))
  · refine bk_210_8 ⟨fun _ => ?_, fun q => ?_⟩
    · refine zloop (P := fun ρ M1 => Off rSc M M1 ∧ rB M1 b S ∧ M1.1 10 0 0 21 = iz (-1) ∧ rMk M1 (S 1).toNat (mkS S) ∧ (crt S top ρ ≤ k ∨ ∃ σ, σ < rwS S top ∧ isR S top σ = true ∧ crt S top σ = k ∧ crt S top ρ = k + 1 ∧ ∀ i, i < (S 1).toNat → M1.1 10 0 28 i = iz (dg (top + 1) (S 1).toNat σ i))) (G := fun ρ M1 => zGo Γ 210 Q 34 [some (zo 10 0 0), some (zi (iz (top : Int))), some (zi (iz (k : Int))), some (zi (iz ((crt S top ρ : Nat) : Int))), some (zi (iz ((rwS S top : Nat) : Int))), some (zi (iz (ρ : Int))), none, none] [] M1) (n := rwS S top) ?_ ?_ (rwS S top) 0 M (by omega) ⟨Off.rf M, hB, ht, hm, Or.inl (Nat.zero_le _)⟩
      · rintro M1 ⟨o1, B1, t1, m1, hf⟩
        have hc := crt_le (S := S) (top := top) (rwS S top)
        refine bk_210_34 ⟨fun _ => ?_, fun q => ?_⟩
        · rcases hf with hf | ⟨σ, s1, s2, s3, s4, s5⟩
          · exact h M1 _ (fun i => (M1.1 10 0 28 i).toInt) o1 (by omega) (fun i _ => (iz_of _).symm) (Or.inr ⟨hf, rfl⟩)
          · exact h M1 _ _ o1 (by omega) s5 (Or.inl ⟨σ, s1, s2, s3, s4, fun _ _ => rfl⟩)
        · rw [iz_le (by omega) (by omega) (by omega) (by omega)] at q
          omega
      · rintro ρ M1 hρ ⟨o1, B1, t1, m1, hf⟩ ih
        have hc := crt_le (S := S) (top := top) ρ
        refine bk_210_34 ⟨fun q => ?_, fun _ => ⟨fun q => ?_, fun q => ?_⟩⟩
        · rw [iz_le (by omega) (by omega) (by omega) (by omega)] at q
          omega
        · rw [iz_lt (by omega) (by omega) (by omega) (by omega)] at q
          rcases hf with hf | ⟨σ, s1, s2, s3, s4, s5⟩
          · omega
          · exact h M1 _ _ o1 (by omega) s5 (Or.inl ⟨σ, s1, s2, s3, s4, fun _ _ => rfl⟩)
        rw [iz_lt (by omega) (by omega) (by omega) (by omega)] at q
        rw [B1.2.2.1, iz1, iz_sub, show S 1 - 1 = ((S 1).toNat : Int) - 1 - ((0 : Nat) : Int) by omega]
        refine zloop (P := fun m M2 => Off rSc M M2 ∧ rB M2 b S ∧ M2.1 10 0 0 21 = iz (-1) ∧ rMk M2 (S 1).toNat (mkS S) ∧ ∀ j, j < (S 1).toNat → (S 1).toNat ≤ j + m → M2.1 10 0 16 j = iz (dg (top + 1) (S 1).toNat ρ j)) (G := fun m M2 => zGo Γ 210 Q 58 [some (zo 10 0 0), some (zi (iz (top : Int))), some (zi (iz (k : Int))), some (zi (iz ((crt S top ρ : Nat) : Int))), some (zi (iz ((rwS S top : Nat) : Int))), some (zi (iz (ρ : Int))), some (zi (iz ((qu (top + 1) ρ m : Nat) : Int))), some (zi (iz (((S 1).toNat : Int) - 1 - (m : Int))))] [] M2) (n := (S 1).toNat) ?_ ?_ (S 1).toNat 0 M1 (by omega) ⟨o1, B1, t1, m1, fun j h1 h2 => by omega⟩
        · rintro M2 ⟨o2, B2, t2, m2, b2⟩
          refine bk_210_58 ⟨fun _ => ?_, fun q => ?_⟩
          · refine r_isRest (bd := dg (top + 1) (S 1).toNat ρ) (top := top) hS B2 t2 (m2.tbd (fun j hj => b2 j hj (by omega))) (rng_of hS (fun j _ => by have := dg_b (B := top + 1) (n := (S 1).toNat) (ρ := ρ) (i := j) (by omega) (by omega); omega)) (by omega) (fun M3 o3 B3 t3 b3 => ⟨_, rfl, ?_⟩)
            have o13 := o2.tr (o3.wk fun _ _ _ _ => rRp_sc)
            have m3 := b3.tmk
            by_cases hir : isR S top ρ = true
            · have e1 := crt_s hir
              unfold isR at hir
              rw [if_pos hir]
              refine ⟨fun _ => ⟨fun q2 => ?_, fun q2 => ?_⟩, fun q => absurd q (by decide)⟩
              · rw [iz_eq (by omega) (by omega) (by omega) (by omega)] at q2
                rw [iz_s, iz_s, ← e1]
                exact ih M3 ⟨o13, B3, t3, m3, Or.inl (by omega)⟩
              · rw [iz_eq (by omega) (by omega) (by omega) (by omega)] at q2
                refine zloop (P := fun i M4 => Off rSc M M4 ∧ rB M4 b S ∧ M4.1 10 0 0 21 = iz (-1) ∧ rMk M4 (S 1).toNat (mkS S) ∧ (∀ j, j < (S 1).toNat → M4.1 10 0 16 j = iz (dg (top + 1) (S 1).toNat ρ j)) ∧ ∀ j, j < i → M4.1 10 0 28 j = iz (dg (top + 1) (S 1).toNat ρ j)) (G := fun i M4 => zGo Γ 210 Q 109 [some (zo 10 0 0), some (zi (iz (top : Int))), some (zi (iz (k : Int))), some (zi (iz ((crt S top ρ : Nat) : Int))), some (zi (iz ((rwS S top : Nat) : Int))), some (zi (iz (ρ : Int))), none, some (zi (iz (i : Int)))] [] M4) (n := (S 1).toNat) ?_ ?_ (S 1).toNat 0 M3 (by omega) ⟨o13, B3, t3, m3, fun j hj => (b3 j hj).1, fun j hj => by omega⟩
                · rintro M4 ⟨o4, B4, t4, m4, b4, f4⟩
                  refine bk_210_109 ⟨fun _ => ?_, fun q => ?_⟩
                  · rw [iz_s, iz_s, ← e1]
                    exact ih M4 ⟨o4, B4, t4, m4, Or.inr ⟨ρ, hρ, hir, by omega, by omega, f4⟩⟩
                  · rw [B4.2.2.1, iz_le (by omega) (by omega) (by omega) (by omega)] at q
                    omega
                · rintro i M4 hi ⟨o4, B4, t4, m4, b4, f4⟩ ih4
                  refine bk_210_109 ⟨fun q => ?_, fun _ => ⟨iz_inN (by omega) (by omega), iz_inN (by omega) (by omega), ?_⟩⟩
                  · rw [B4.2.2.1, iz_le (by omega) (by omega) (by omega) (by omega)] at q
                    omega
                  rw [iz_clN (by omega), iz_s, b4 i hi]
                  refine ih4 _ ⟨o4.w _ (by unfold rSc; omega), B4.w (by omega) (by omega), by rw [zw_ne (by omega)]; exact t4, m4.w (by omega), fun j hj => by rw [zw_ne (by omega)]; exact b4 j hj, fun j hj => ?_⟩
                  by_cases z : j = i
                  · rw [z, zw_eq]
                  · rw [zw_ne (by omega)]; exact f4 j (by omega)
            · have e1 := crt_n hir
              unfold isR at hir
              rw [if_neg hir]
              refine ⟨fun q => absurd rfl q, fun _ => ?_⟩
              have := ih M3 ⟨o13, B3, t3, m3, Or.inl (by omega)⟩
              rw [e1] at this
              rw [iz_s]
              exact this
          · rw [iz0, iz_lt (by omega) (by omega) (by omega) (by omega)] at q
            omega
        · rintro m M2 hmn ⟨o2, B2, t2, m2, b2⟩ ih2
          have qb : qu (top + 1) ρ m ≤ 1296 := by
            rw [qu_rws]
            have := Nat.div_le_self ρ (rws (top + 1) m)
            omega
          have hmod := iz_mod (a := qu (top + 1) ρ m) (B := top + 1) (by omega) (by omega) (by omega)
          have ei : ((S 1).toNat : Int) - 1 - (m : Int) = (((S 1).toNat - 1 - m : Nat) : Int) := by omega
          rw [ei]
          refine bk_210_58 ⟨fun q => ?_, fun _ => ?_⟩
          · rw [iz0, iz_lt (by omega) (by omega) (by omega) (by omega)] at q
            omega
          have nz : ¬ iz ((top + 1 : Nat) : Int) = 0 := by rw [iz0, iz_eq (by omega) (by omega) (by omega) (by omega)]; omega
          rw [eB, hmod.1, hmod.2, iz_clN (by omega), iz_m1, iz_add, show (((S 1).toNat - 1 - m : Nat) : Int) + -1 = ((S 1).toNat : Int) - 1 - ((m + 1 : Nat) : Int) by omega]
          refine ⟨nz, iz_inN (by omega) (by omega), nz, ih2 _ ⟨o2.w _ (by unfold rSc; omega), B2.w (by omega) (by omega), by rw [zw_ne (by omega)]; exact t2, m2.w (by omega), fun j hj hj2 => ?_⟩⟩
          by_cases z : j = (S 1).toNat - 1 - m
          · rw [z, zw_eq]
            unfold dg
            rw [if_pos (by omega), show (S 1).toNat - 1 - ((S 1).toNat - 1 - m) = m by omega]
          · rw [zw_ne (by omega)]; exact b2 j hj (by omega)
    · rw [hB.2.2.1, iz_le (by omega) (by omega) (by omega) (by omega)] at q
      omega
  · refine bk_210_8 ⟨fun q => ?_, fun _ => ?_⟩
    · rw [hB.2.2.1, iz_le (by omega) (by omega) (by omega) (by omega)] at q
      omega
    · rw [eB, iz_mul, iz_s, ← Int.natCast_mul]
      exact ih
theorem r_isFew {x y : Int32} (hW : rW M cnt SS) (ht0 : M.1 10 0 0 21 = iz (-1)) (hf : ∀ M', Off rSc M M' → (x.toInt < 0 ∨ (cnt : Int) ≤ x.toInt) ∨ (∃ s, s < cnt ∧ x = iz (s : Int) ∧ ¬ fewOk (SS s) y) → Q (some (zi 0)) M') (ht : ∀ (s : Nat) (M' : zM), s < cnt → x = iz (s : Int) → Off rSc M M' → rB M' (510 + 260 * s) (SS s) → rMk M' (SS s 1).toNat (mkS (SS s)) → M'.1 10 0 0 21 = iz (-1) → fewOk (SS s) y → Q (some (zi 1)) M') : zEv Γ 211 [zo 10 0 0, zi x, zi y] M Q := by
  refine en_211 (bk_211_0 (r_takesSale hW (fun q => ⟨_, rfl, fun _ => ⟨Or.inl rfl, hf M (Off.rf M) (Or.inl q)⟩, fun q' => absurd rfl q'⟩) (fun s n M1 hs hx hn ho hB hb => ⟨_, rfl, fun q' => absurd q' (by decide), fun _ => ?_⟩)))
  have hS := (hW.2.2 s hs).2
  have h7 := hS.2.1
  have en : n = (SS s 1).toNat := by omega
  subst en
  have ht1 : M1.1 10 0 0 21 = iz (-1) := (ho.1 _ _ _ _ (by rintro ⟨-, -, -, -, q⟩; exact q rfl rfl)).trans ht0
  obtain ⟨w, hw1, hw2, rfl⟩ := iz_ex y
  unfold fewOk at hf ht
  simp only [iz_toInt hw1 hw2] at hf ht
  rw [hB.2.2.1, show (4 : Int32) = iz 4 from rfl, iz_lt (by omega) (by omega) (by omega) (by omega), iz0, show (5 : Int32) = iz 5 from rfl]
  refine ⟨fun q => ⟨Or.inl rfl, hf M1 ho (Or.inr ⟨s, hs, hx, by omega⟩)⟩, fun q => r_isIn (by omega) (by omega) (by omega) (fun q1 q2 => ⟨_, rfl, fun z => absurd z (by decide), fun _ => ⟨Or.inr rfl, ht s M1 hs hx ho hB hb.tmk ht1 (by omega)⟩⟩) (fun q1 => ⟨_, rfl, fun _ => ⟨Or.inl rfl, hf M1 ho (Or.inr ⟨s, hs, hx, by omega⟩)⟩, fun z => absurd rfl z⟩)⟩
theorem r_rests {x y : Int32} (hW : rW M cnt SS) (ht0 : M.1 10 0 0 21 = iz (-1)) (h : ∀ M', Kp M M' → Q (some (zi (iz (fS cnt SS x (fun S => gRests S y) (-1))))) M') : zEv Γ 212 [zo 10 0 0, zi x, zi y] M Q := by
  refine en_212 (bk_212_0 (r_isFew hW ht0 (fun M1 o1 q => ⟨_, rfl, fun _ => ?_, fun z => absurd rfl z⟩) (fun s M1 hs hx o1 hB hm ht1 q => ⟨_, rfl, fun z => absurd z (by decide), fun _ => ?_⟩)))
  · have h := h M1 (Kp.ofR o1)
    rcases q with q | ⟨s, hs, hx, q⟩
    · rw [fS_out q] at h
      exact h
    · rw [fS_in hs hW.2.1 hx] at h
      unfold gRests at h
      rw [if_neg q] at h
      exact h
  · have hS := (hW.2.2 s hs).2
    have h7 := hS.2.1
    rw [fS_in hs hW.2.1 hx] at h
    unfold gRests at h
    rw [if_pos q] at h
    obtain ⟨htt, hy⟩ := few_top q
    have q1 := q.1
    revert h
    generalize y.toInt.toNat = top at htt hy
    subst hy
    intro h
    refine r_restsUpTo (k := 5000) hS hB ht1 hm q1 htt (by omega) (fun M2 f g o2 hf6 hg hR => ⟨_, rfl, ?_⟩)
    have := h M2 (Kp.ofR (o1.tr o2))
    have hrw : rwS (SS s) top ≤ 1296 := rws_le (by omega) (by omega) (by omega)
    have c3 := crt_le (S := SS s) (top := top) (rwS (SS s) top)
    have e : f = crt (SS s) top (rwS (SS s) top) := by
      rcases hR with ⟨ρ, r1, r2, r3, r4, r5⟩ | ⟨r1, r2⟩
      · have := crt_le (S := SS s) (top := top) ρ
        omega
      · exact r2
    rw [e]
    exact this
theorem r_rest {x y k i : Int32} (hW : rW M cnt SS) (ht0 : M.1 10 0 0 21 = iz (-1)) (h : ∀ M', Kp M M' → Q (some (zi (iz (fS cnt SS x (fun S => gRest S y k i) (-1))))) M') : zEv Γ 213 [zo 10 0 0, zi x, zi y, zi k, zi i] M Q := by
  refine en_213 (bk_213_0 (r_isFew hW ht0 (fun M1 o1 q => ⟨_, rfl, fun _ => ?_, fun z => absurd rfl z⟩) (fun s M1 hs hx o1 hB hm ht1 q => ⟨_, rfl, fun z => absurd z (by decide), fun _ => ?_⟩)))
  · have h := h M1 (Kp.ofR o1)
    rcases q with q | ⟨s, hs, hx, q⟩
    · rw [fS_out q] at h
      exact h
    · rw [fS_in hs hW.2.1 hx] at h
      unfold gRest at h
      rw [if_neg (fun z => q z.1)] at h
      exact h
  · have hS := (hW.2.2 s hs).2
    have h7 := hS.2.1
    rw [fS_in hs hW.2.1 hx] at h
    unfold gRest at h
    refine r_isBidder hS hB (fun q2 => ⟨_, rfl, fun _ => ?_, fun q' => absurd rfl q'⟩) (fun j hj hy => ⟨_, rfl, fun q' => absurd q' (by decide), fun _ => ?_⟩)
    · have := h M1 (Kp.ofR o1)
      rw [if_neg (by omega)] at this
      exact this
    subst hy
    obtain ⟨htt, hy⟩ := few_top q
    have q1 := q.1
    rw [iz_toInt (by omega) (by omega), show ((j : Int).toNat) = j by omega] at h
    obtain ⟨κ, hk1, hk2, rfl⟩ := iz_ex k
    rw [iz_toInt (by omega) (by omega)] at h
    rw [iz0, show (4000 : Int32) = iz 4000 from rfl]
    have hrw : rwS (SS s) y.toInt.toNat ≤ 1296 := rws_le (by omega) (by omega) (by omega)
    have c3 := crt_le (S := SS s) (top := y.toInt.toNat) (rwS (SS s) y.toInt.toNat)
    refine r_isIn (by omega) (by omega) (by omega) (fun q2 q3 => ⟨_, rfl, fun _ => ?_, fun z => absurd z (by decide)⟩) (fun q2 => ⟨_, rfl, fun z => absurd rfl z, fun _ => ?_⟩)
    · rw [if_pos ⟨q, by omega, by omega⟩] at h
      revert h
      generalize y.toInt.toNat = top at htt hy hrw c3
      subst hy
      intro h
      rw [show κ = ((κ.toNat : Nat) : Int) by omega]
      refine r_restsUpTo (k := κ.toNat) hS hB ht1 hm q1 htt (by omega) (fun M2 f g o2 hf6 hg hR => ⟨_, rfl, ?_⟩)
      have h := h M2 (Kp.ofR (o1.tr o2))
      rw [iz_le (by omega) (by omega) (by omega) (by omega)]
      rcases hR with ⟨ρ, r1, r2, r3, r4, r5⟩ | ⟨r1, r2⟩
      · rw [nthR_some r1 r2 r3] at h
        refine ⟨fun z => by omega, fun _ => ⟨iz_inN (by omega) (by omega), ?_⟩⟩
        rw [iz_clN (by omega), hg j (by omega), r5 j (by omega)]
        exact h
      · rw [nthR_none r1] at h
        exact ⟨fun _ => h, fun z => absurd (by omega) z⟩
    · have h := h M1 (Kp.ofR o1)
      by_cases z : 0 ≤ κ
      · rw [if_pos ⟨q, by omega, by omega⟩, nthR_none (by omega)] at h
        exact h
      · rw [if_neg (by omega)] at h
        exact h
end Z54
