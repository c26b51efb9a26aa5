section Z52
variable {Γ : zC} {Q : zQ} {M : zM} {b cnt t ts n : Nat} {S : SB} {SS : Nat → SB} {bd mk : Nat → Int} {ex : Nat → Bool}
theorem fnd_s {p : Nat → Bool} (j : Nat) {d : Nat} : fnd p j (d + 1) = if p j = true then some j else fnd p (j + 1) d := rfl
theorem Off.rw1 {f i : Nat} {x : Int32} : Off (fun c' t' f' i' => c' = 10 ∧ t' = 0 ∧ f' = f ∧ i' = i) M (zw M 10 0 f i x) := Off.w (Off.rf M) _ ⟨rfl, rfl, rfl, rfl⟩
theorem rB.w {f i : Nat} {x : Int32} (h : rB M b S) (hf : f ≠ 1) (h0 : f = 0 → i < 12 ∨ 14 < i) : rB (zw M 10 0 f i x) b S := h.off Off.rw1 (by intro i; omega) (by omega) (by omega) (by omega)
theorem rBd.w {f i : Nat} {x : Int32} (h : rBd M n bd mk ex) (hf : f ≠ 16 ∧ f ≠ 17 ∧ f ≠ 18) : rBd (zw M 10 0 f i x) n bd mk ex := h.off Off.rw1 (by intro i; omega) (by intro i; omega) (by intro i; omega)
theorem zw_ne {c t f i c' t' f' i' : Nat} {x : Int32} (h : ¬ (c' = c ∧ t' = t ∧ f' = f ∧ i' = i)) : (zw M c t f i x).1 c' t' f' i' = M.1 c' t' f' i' := by rw [zw_get, if_neg h]
theorem zw_eq {c t f i : Nat} {x : Int32} : (zw M c t f i x).1 c t f i = x := by rw [zw_get, if_pos ⟨rfl, rfl, rfl, rfl⟩]
theorem r_isAs {r : Nat} {B : Nat → Int} (hS : SOK S) (hB0 : rB M b S) (hr : r < 40) (hp : ∀ k, k < (S 1).toNat → M.1 10 0 25 (7 * r + k) = iz (B k)) (hb : rBd M (S 1).toNat bd mk ex) (hB : ∀ k, k < 7 → 0 ≤ B k ∧ B k ≤ 99) (hbd : ∀ k, k < 7 → 0 ≤ bd k ∧ bd k ≤ 99) (h : Q (some (zi (iz (if smb B bd (S 1).toNat = true then 1 else 0)))) M) : zEv Γ 206 [zo 10 0 0, zi (iz (r : Int))] M Q := by
  have h7 := hS.2.1
  refine en_206 (bk_206_0 (nloop (G := fun k => (∀ k', k' < k → B k' = bd k') → zGo Γ 206 Q 4 [some (zo 10 0 0), some (zi (iz (r : Int))), some (zi 1), some (zi (iz (k : Int)))] [] M) (n := (S 1).toNat) (fun hk => ?_) (fun k hkn ihk hk => ?_) (S 1).toNat 0 (by omega) (fun k hk => by omega)))
  · rw [if_pos (by unfold smb; rw [decide_eq_true_iff]; exact hk)] at h
    refine bk_206_4 ⟨fun _ => ⟨Or.inr rfl, h⟩, fun q => ?_⟩
    rw [hB0.2.2.1, iz_le (by omega) (by omega) (by omega) (by omega)] at q
    omega
  · refine bk_206_4 ⟨fun q => ?_, fun _ => ⟨fun q => absurd q (by decide), fun _ => ?_⟩⟩
    · rw [hB0.2.2.1, iz_le (by omega) (by omega) (by omega) (by omega)] at q
      omega
    have b1 := hB k (by omega)
    have b2 := hbd k (by omega)
    rw [show (7 : Int32) * iz (r : Int) + iz (k : Int) = iz ((7 * r + k : Nat) : Int) by rw [show (7 : Int32) = iz 7 from rfl, iz_mul, iz_add]; congr 1, iz_clN (by omega), iz_clN (by omega), hp k hkn, (hb k hkn).1, iz_eq (by omega) (by omega) (by omega) (by omega), iz_s]
    refine ⟨iz_inN (by omega) (by omega), iz_inN (by omega) (by omega), fun q => ?_, fun q => ihk (fun k' hk' => ?_)⟩
    · rw [if_neg (by unfold smb; rw [decide_eq_true_iff]; exact fun z => q (z k hkn))] at h
      exact bk_206_4 ⟨fun _ => ⟨Or.inl rfl, h⟩, fun _ => ⟨fun _ => ⟨Or.inl rfl, h⟩, fun q => absurd rfl q⟩⟩
    · by_cases z : k' = k
      · rw [z]; exact q
      · exact hk k' (by omega)
theorem r_turns (hS : SOK S) (hB : rB M b S) (ht : M.1 10 0 0 21 = iz (-1)) (hb : rBd M (S 1).toNat (bdS S) (mkS S) (fun _ => false))
    (h : ∀ M', Off rSc M M' → M'.1 10 0 0 25 = iz ((stp S 0 40 : Nat) : Int) → M'.1 10 0 0 26 = iz (tE S (stp S 0 40)) → (∀ k, k < (S 1).toNat → M'.1 10 0 16 k = iz (tB S (stp S 0 40) k)) → Q none M') : zEv Γ 207 [zo 10 0 0] M Q := by
  have h7 := hS.2.1
  refine en_207 (bk_207_0 (zloop (P := fun r M1 => Off rSc M M1 ∧ rB M1 b S ∧ M1.1 10 0 0 21 = iz (-1) ∧ M1.1 10 0 0 25 = iz (r : Int) ∧ M1.1 10 0 0 26 = iz (tE S r) ∧ rBd M1 (S 1).toNat (tB S r) (mkS S) (fun _ => false) ∧ (∀ r' k, r' < r → k < (S 1).toNat → M1.1 10 0 25 (7 * r' + k) = iz (tB S r' k)) ∧ stp S r (40 - r) = stp S 0 40) (G := fun r M1 => zGo Γ 207 Q 10 [some (zo 10 0 0), none, none, none] [] M1) (n := 40) ?_ ?_ 40 0 _ (by omega) ⟨?_, ?_, ht, rfl, rfl, ?_, fun r' k hr => by omega, rfl⟩))
  · rintro M1 ⟨o1, B1, t1, h4, h5, hb1, hp, hst⟩
    have hst : 40 = stp S 0 40 := hst
    rw [hst] at h4 h5
    have fin := h M1 o1 h4 h5 (fun k hk => by rw [hst] at hb1; exact (hb1 k hk).1)
    exact bk_207_10 ⟨fun _ => fin, fun q => by rw [h4, ← hst] at q; exact absurd (by decide) q⟩
  · rintro r M1 hr ⟨o1, B1, t1, h4, h5, hb1, hp, hst⟩ ih
    have tb := tE_b S r
    rw [show 40 - r = (40 - (r + 1)) + 1 by omega, stp] at hst
    by_cases hE : tE S r = 0
    · rw [if_pos hE] at hst
      rw [hE] at h5
      refine bk_207_10 ⟨fun q => ?_, fun _ => ⟨fun q => absurd h5 q, fun _ => ?_⟩⟩
      · rw [h4, show (40 : Int32) = iz 40 from rfl, iz_le (by omega) (by omega) (by omega) (by omega)] at q
        omega
      refine zloop (P := fun i M2 => Off rSc M M2 ∧ rB M2 b S ∧ M2.1 10 0 0 21 = iz (-1) ∧ M2.1 10 0 0 25 = iz (r : Int) ∧ M2.1 10 0 0 26 = iz 0 ∧ rBd M2 (S 1).toNat (tB S r) (mkS S) (fun _ => false) ∧ (∀ r' k, r' < r → k < (S 1).toNat → M2.1 10 0 25 (7 * r' + k) = iz (tB S r' k)) ∧ ∀ k, k < i → M2.1 10 0 25 (7 * r + k) = iz (tB S r k)) (G := fun i M2 => zGo Γ 207 Q 30 [some (zo 10 0 0), some (zi 0), some (zi (iz (i : Int))), none] [] M2) (n := (S 1).toNat) ?_ ?_ (S 1).toNat 0 M1 (by omega) ⟨o1, B1, t1, h4, h5, hb1, hp, fun k hk => by omega⟩
      · rintro M2 ⟨o2, B2, t2, h42, h52, hb2, hp2, hq2⟩
        have hp2 : ∀ r' k, r' < r + 1 → k < (S 1).toNat → M2.1 10 0 25 (7 * r' + k) = iz (tB S r' k) := fun r' k h1 h2 => by
          by_cases z : r' = r
          · rw [z]; exact hq2 k h2
          · exact hp2 r' k (by omega) h2
        refine bk_207_30 ⟨fun _ => ?_, fun q => ?_⟩
        · refine zloop (P := fun i M3 => Off rSc M M3 ∧ rB M3 b S ∧ M3.1 10 0 0 21 = iz (-1) ∧ M3.1 10 0 0 25 = iz (r : Int) ∧ M3.1 10 0 0 26 = iz 0 ∧ rBd M3 (S 1).toNat (trn S (tB S r) i) (mkS S) (fun _ => false) ∧ (∀ r' k, r' < r + 1 → k < (S 1).toNat → M3.1 10 0 25 (7 * r' + k) = iz (tB S r' k))) (G := fun i M3 => zGo Γ 207 Q 66 [some (zo 10 0 0), some (zi (iz (if trnS S (tB S r) i = true then 1 else 0))), some (zi (iz (i : Int))), none] [] M3) (n := (S 1).toNat) ?_ ?_ (S 1).toNat 0 M2 (by omega) ⟨o2, B2, t2, h42, h52, hb2, hp2⟩
          · rintro M3 ⟨o3, B3, t3, h43, h53, hb3, hp3⟩
            have hb3 : rBd M3 (S 1).toNat (tB S (r + 1)) (mkS S) (fun _ => false) := hb3
            have o4 : Off rSc M (zw M3 10 0 0 25 (iz ((r + 1 : Nat) : Int))) := o3.w _ (by unfold rSc; omega)
            refine bk_207_66 ⟨fun _ => ?_, fun q => ?_⟩
            · rw [h43, iz_s]
              have fin : ∀ (x : Int) (M4 : zM), x = tE S (r + 1) → M4.1 10 0 0 26 = iz x → Off (fun c t f i => c = 10 ∧ t = 0 ∧ f = 0 ∧ i = 26) (zw M3 10 0 0 25 (iz ((r + 1 : Nat) : Int))) M4 → zGo Γ 207 Q 10 [some (zo 10 0 0), none, none, none] [] M4 := by
                intro x M4 hx h6 o5
                refine ih M4 ⟨o4.tr (o5.wk (fun c t f i q => by unfold rSc; omega)), (B3.w (by omega) (by omega)).off o5 (by intro i; omega) (by omega) (by omega) (by omega), ?_, ?_, ?_, (hb3.w (by omega)).off o5 (by intro i; omega) (by intro i; omega) (by intro i; omega), fun r' k h1 h2 => ?_, hst⟩
                · rw [o5.1 _ _ _ _ (by omega), zw_ne (by omega)]; exact t3
                · rw [o5.1 _ _ _ _ (by omega), zw_eq]
                · rw [h6, hx]
                · rw [o5.1 _ _ _ _ (by omega), zw_ne (by omega)]; exact hp3 r' k h1 h2
              cases hg : trnS S (tB S r) (S 1).toNat with
              | false =>
                refine ⟨fun q => absurd rfl q, fun _ => ?_⟩
                have ff := fin 1 (zw (zw M3 10 0 0 25 (iz ((r + 1 : Nat) : Int))) 10 0 0 26 1) (by rw [tE, if_neg (by rw [hg]; decide)]) zw_eq (Off.w (Off.rf _) _ (by omega))
                exact bk_207_133 ⟨fun _ => ff, fun _ => ⟨fun _ => ff, fun q => absurd q (by rw [zw_eq]; decide)⟩⟩
              | true =>
                refine ⟨fun _ => ?_, fun q => absurd q (by decide)⟩
                refine nloop (G := fun r' => fnd (fun r' => smb (tB S r') (tB S (r + 1)) 7) 0 (r + 1) = fnd (fun r' => smb (tB S r') (tB S (r + 1)) 7) r' (r + 1 - r') → zGo Γ 207 Q 133 [some (zo 10 0 0), none, some (zi (iz (r' : Int))), none] [] (zw M3 10 0 0 25 (iz ((r + 1 : Nat) : Int)))) (n := r + 1) (fun e => ?_) (fun r' hr' ih' e => ?_) (r + 1) 0 (by omega) rfl
                · rw [show r + 1 - (r + 1) = 0 by omega, fnd] at e
                  refine bk_207_133 ⟨fun _ => fin 0 _ ?_ ?_ (Off.rf _), fun q => ?_⟩
                  · rw [tE, if_pos hg, e, if_neg (by decide)]
                  · rw [zw_ne (by omega)]; exact h53
                  · rw [zw_eq, iz_le (by omega) (by omega) (by omega) (by omega)] at q
                    omega
                · rw [show r + 1 - r' = (r + 1 - (r' + 1)) + 1 by omega, fnd_s r'] at e
                  refine bk_207_133 ⟨fun q => ?_, fun _ => ⟨fun q => absurd ((zw_ne (by omega)).trans h53) q, fun _ => ?_⟩⟩
                  · rw [zw_eq, iz_le (by omega) (by omega) (by omega) (by omega)] at q
                    omega
                  refine r_isAs (B := tB S r') (bd := tB S (r + 1)) hS (B3.w (by omega) (by omega)) (by omega) (fun k hk => by rw [zw_ne (by omega)]; exact hp3 r' k hr' hk) (hb3.w (by omega)) (fun k hk => tB_b hS _ k hk) (fun k hk => tB_b hS _ k hk) ⟨_, rfl, ?_⟩
                  rw [← smb_7 hS, iz_s]
                  cases hm : smb (tB S r') (tB S (r + 1)) 7 with
                  | false =>
                    rw [hm, if_neg (by decide)] at e
                    exact ⟨fun _ => ih' e, fun q => absurd rfl q⟩
                  | true =>
                    rw [hm, if_pos rfl] at e
                    refine ⟨fun q => absurd q (by decide), fun _ => ?_⟩
                    have ff := fin 2 (zw (zw M3 10 0 0 25 (iz ((r + 1 : Nat) : Int))) 10 0 0 26 2) (by rw [tE, if_pos hg, e]; rfl) zw_eq (Off.w (Off.rf _) _ (by omega))
                    exact bk_207_133 ⟨fun _ => ff, fun _ => ⟨fun _ => ff, fun q => absurd q (by rw [zw_eq]; decide)⟩⟩
            · rw [B3.2.2.1, iz_le (by omega) (by omega) (by omega) (by omega)] at q
              omega
          · rintro i M3 hi ⟨o3, B3, t3, h43, h53, hb3, hp3⟩ ih3
            refine bk_207_66 ⟨fun q => ?_, fun _ => ?_⟩
            · rw [B3.2.2.1, iz_le (by omega) (by omega) (by omega) (by omega)] at q
              omega
            have hrg := rng_of hS (fun k hk => trn_b (S := S) (bd := tB S r) (m := 7) (fun k hk => tB_b hS r k hk) i k hk)
            refine r_rep (bd := trn S (tB S r) i) (top := 99) hS B3 t3 hb3 hrg (by omega) (by omega) (fun M4 o4 B4 t4 hb4 hL4 hg4 => ⟨_, rfl, r_gainA hS B4 hL4 t4 (by omega) ⟨_, rfl, ?_⟩⟩)
            have hrl := rep_le S (trn S (tB S r) i) i 99
            have b1 := gX_b (bd := trn S (tB S r) i) hS hrg (show i < (S 1).toNat by omega) (x := trn S (tB S r) i i) (hrg i hi).1
            have b2 := gX_b (bd := trn S (tB S r) i) hS hrg (show i < (S 1).toNat by omega) (x := ((rep S (trn S (tB S r) i) i 99 : Nat) : Int)) (by omega)
            rw [hg4, iz_lt (by omega) (by omega) (by omega) (by omega), iz_s, iz_clN (by omega)]
            have o5 : Off rSc M M4 := o3.tr (o4.wk fun _ _ _ _ => rRp_sc)
            have h44 : M4.1 10 0 0 25 = iz (r : Int) := (o4.1 _ _ _ _ (by unfold rRp; omega)).trans h43
            have h54 : M4.1 10 0 0 26 = iz 0 := (o4.1 _ _ _ _ (by unfold rRp; omega)).trans h53
            have hp4 : ∀ r' k, r' < r + 1 → k < (S 1).toNat → M4.1 10 0 25 (7 * r' + k) = iz (tB S r' k) := fun r' k h1 h2 => (o4.1 _ _ _ _ (by unfold rRp; omega)).trans (hp3 r' k h1 h2)
            refine ⟨fun q => ⟨iz_inN (by omega) (by omega), ?_⟩, fun q => ?_⟩
            · have hg : rstl S (trn S (tB S r) i) 99 i = true := by unfold rstl; rw [decide_eq_true_iff]; exact q
              have e1 : trn S (tB S r) (i + 1) = updB (trn S (tB S r) i) i ((rep S (trn S (tB S r) i) i 99 : Nat) : Int) := by rw [trn, if_pos hg]
              have e2 : trnS S (tB S r) (i + 1) = true := by rw [trnS, if_pos hg]
              have := ih3 (zw M4 10 0 16 i (iz ((rep S (trn S (tB S r) i) i 99 : Nat) : Int))) ⟨o5.w _ (by unfold rSc; omega), B4.w (by omega) (by omega), by rw [zw_ne (by omega)]; exact t4, by rw [zw_ne (by omega)]; exact h44, by rw [zw_ne (by omega)]; exact h54, by
                rw [e1]
                refine rBd_upd (y := trn S (tB S r) i i) ?_
                rw [updB_self]
                exact hb4, fun r' k h1 h2 => by rw [zw_ne (by omega)]; exact hp4 r' k h1 h2⟩
              rw [e2] at this
              exact this
            · have hg : ¬ rstl S (trn S (tB S r) i) 99 i = true := by unfold rstl; rw [decide_eq_true_iff]; exact q
              have e1 : trn S (tB S r) (i + 1) = trn S (tB S r) i := by rw [trn, if_neg hg]
              have e2 : trnS S (tB S r) (i + 1) = trnS S (tB S r) i := by rw [trnS, if_neg hg]
              have := ih3 M4 ⟨o5, B4, t4, h44, h54, by rw [e1]; exact hb4, hp4⟩
              rw [e2] at this
              exact this
        · rw [B2.2.2.1, iz_le (by omega) (by omega) (by omega) (by omega)] at q
          omega
      · rintro i M2 hi ⟨o2, B2, t2, h42, h52, hb2, hp2, hq2⟩ ih2
        refine bk_207_30 ⟨fun q => ?_, fun _ => ?_⟩
        · rw [B2.2.2.1, iz_le (by omega) (by omega) (by omega) (by omega)] at q
          omega
        rw [h42, show (7 : Int32) * iz (r : Int) + iz (i : Int) = iz ((7 * r + i : Nat) : Int) by rw [show (7 : Int32) = iz 7 from rfl, iz_mul, iz_add]; congr 1, iz_clN (by omega), iz_clN (by omega), (hb2 i hi).1, iz_s]
        refine ⟨iz_inN (by omega) (by omega), iz_inN (by omega) (by omega), ih2 _ ⟨o2.w _ (by unfold rSc; omega), B2.w (by omega) (by omega), by rw [zw_ne (by omega)]; exact t2, by rw [zw_ne (by omega)]; exact h42, by rw [zw_ne (by omega)]; exact h52, hb2.w (by omega), fun r' k h1 h2 => by rw [zw_ne (by omega)]; exact hp2 r' k h1 h2, fun k hk => ?_⟩⟩
        by_cases z : k = i
        · rw [z, zw_eq]
        · rw [zw_ne (by omega)]; exact hq2 k (by omega)
    · rw [if_neg hE] at hst
      rw [hst] at h4 h5
      have fin := h M1 o1 h4 h5 (fun k hk => by rw [hst] at hb1; exact (hb1 k hk).1)
      refine bk_207_10 ⟨fun _ => fin, fun _ => ⟨fun _ => fin, fun q => ?_⟩⟩
      rw [h5, ← hst, iz0, iz_eq (by omega) (by omega) (by omega) (by omega)] at q
      omega
  · exact ((Off.rf M).w _ (by unfold rSc; omega)).w _ (by unfold rSc; omega)
  · exact (hB.w (by omega) (by omega)).w (by omega) (by omega)
  · exact (hb.w (by omega)).w (by omega)
theorem r_replies {x y : Int32} (hW : rW M cnt SS) (ht0 : M.1 10 0 0 21 = iz (-1)) (h : ∀ M', Kp M M' → Q (some (zi (iz (fS cnt SS x (fun S => gReplies S y) (-1))))) M') : zEv Γ 208 [zo 10 0 0, zi x, zi y] M Q := by
  refine en_208 (bk_208_0 (r_takesSale hW (fun q => ⟨_, rfl, fun q' => absurd rfl q', fun _ => ?_⟩) (fun s n M1 hs hx hn ho hB hb => ⟨_, rfl, fun _ => ?_, fun q' => absurd q' (by decide)⟩)))
  · have := h M (Kp.rf M)
    rw [fS_out q] at this
    exact this
  · have hS := (hW.2.2 s hs).2
    have h7 := hS.2.1
    have en : n = (SS s 1).toNat := by omega
    subst en
    have ht1 : M1.1 10 0 0 21 = iz (-1) := (ho.1 _ _ _ _ (by rintro ⟨-, -, -, -, q⟩; exact q rfl rfl)).trans ht0
    obtain ⟨w, hw1, hw2, rfl⟩ := iz_ex y
    rw [fS_in hs hW.2.1 hx] at h
    unfold gReplies at h
    rw [iz_toInt (by omega) (by omega)] at h
    rw [hB.2.2.1, show (9 : Int32) = iz 9 from rfl, iz_add, show (10 : Int32) = iz 10 from rfl]
    have key : ∀ r2 : Int, (r2 = if 10 ≤ w ∧ w - 10 < SS s 1 then 1 else 0) → (iz w = 0 → zEv Γ 207 [zo 10 0 0] M1 (fun o M3 => o = none ∧ (¬ iz w = 0 → (¬ iz w = 1 → vp_in (iz w - iz 10) 8 ∧ Q (some (zi (M3.1 10 0 16 (iz w - iz 10).toNatClampNeg))) M3) ∧ (iz w = 1 → Q (some (zi (M3.1 10 0 0 26))) M3)) ∧ (iz w = 0 → Q (some (zi (M3.1 10 0 0 25))) M3))) ∧ (¬ iz w = 0 → (iz w = 1 → zEv Γ 207 [zo 10 0 0] M1 (fun o M4 => o = none ∧ (¬ iz w = 0 → (¬ iz w = 1 → vp_in (iz w - iz 10) 8 ∧ Q (some (zi (M4.1 10 0 16 (iz w - iz 10).toNatClampNeg))) M4) ∧ (iz w = 1 → Q (some (zi (M4.1 10 0 0 26))) M4)) ∧ (iz w = 0 → Q (some (zi (M4.1 10 0 0 25))) M4))) ∧ (¬ iz w = 1 → (¬ iz r2 = 0 → zEv Γ 207 [zo 10 0 0] M1 (fun o M5 => o = none ∧ (¬ iz w = 0 → (¬ iz w = 1 → vp_in (iz w - iz 10) 8 ∧ Q (some (zi (M5.1 10 0 16 (iz w - iz 10).toNatClampNeg))) M5) ∧ (iz w = 1 → Q (some (zi (M5.1 10 0 0 26))) M5)) ∧ (iz w = 0 → Q (some (zi (M5.1 10 0 0 25))) M5))) ∧ (iz r2 = 0 → Q (some (zi (-1))) M1))) := by
      intro r2 hr2
      rw [iz0, iz_eq (by omega) (by omega) (by omega) (by omega), show (iz w = 1) = (w = 1) by rw [iz1, iz_eq (by omega) (by omega) (by omega) (by omega)], iz_sub]
      refine ⟨fun q0 => r_turns hS hB ht1 hb (fun M2 o2 h4 h5 hbs => ⟨rfl, fun q => absurd q0 q, fun _ => ?_⟩), fun q0 => ⟨fun q1 => r_turns hS hB ht1 hb (fun M2 o2 h4 h5 hbs => ⟨rfl, fun _ => ⟨fun q => absurd q1 q, fun _ => ?_⟩, fun q => absurd q q0⟩), fun q1 => ⟨fun q2 => r_turns hS hB ht1 hb (fun M2 o2 h4 h5 hbs => ⟨rfl, fun _ => ⟨fun _ => ?_, fun q => absurd q q1⟩, fun q => absurd q q0⟩), fun q2 => ?_⟩⟩⟩
      · have := h M2 (Kp.ofR (ho.tr o2))
        rw [if_pos q0] at this
        rw [h4]
        exact this
      · have := h M2 (Kp.ofR (ho.tr o2))
        rw [if_neg q0, if_pos q1] at this
        rw [h5]
        exact this
      · have := h M2 (Kp.ofR (ho.tr o2))
        rw [if_neg q0, if_neg q1] at this
        by_cases z : 10 ≤ w ∧ w - 10 < SS s 1
        · rw [if_pos z] at this
          rw [iz_cl (by omega) (by omega), hbs _ (by omega), iz_in (by omega) (by omega)]
          exact ⟨by omega, this⟩
        · rw [if_neg z] at hr2
          rw [hr2] at q2
          exact absurd rfl q2
      · have := h M1 (Kp.ofR ho)
        rw [if_neg q0, if_neg q1] at this
        by_cases z : 10 ≤ w ∧ w - 10 < SS s 1
        · rw [if_pos z] at hr2
          rw [hr2] at q2
          exact absurd q2 (by decide)
        · rw [if_neg z] at this
          exact this
    exact r_isIn (by omega) (by omega) (by omega) (fun q1 q2 => ⟨_, rfl, key 1 (by rw [if_pos (by omega)])⟩) (fun q => ⟨_, rfl, key 0 (by rw [if_neg (by omega)])⟩)
end Z52
