section ZW
variable {Γ : zC} {μ : Nat} {Q : zQ} {K : zK} {pc len a b : Nat} {z : Int} {L : zL} {st : List zV} {M : zM}
theorem zfv_w {M : zM} {c t k : Nat} {x : Int32} (h1 : zar c (k + 1) = none) (h2 : zob c k = none) (h3 : zlg c k = false) : zfv c t k (zw M c t 0 k x) = zi x := by
  unfold zfv
  rw [h1, h2, h3]
  show zi (if _ then _ else _) = _
  rw [if_pos ⟨rfl, rfl, rfl, rfl⟩]
theorem zfv_w' {M : zM} {c t k j : Nat} {x : Int32} (hj : j ≠ k) : zfv c t j (zw M c t 0 k x) = zfv c t j M := by
  unfold zfv
  have e1 : (zw M c t 0 k x).1 c t 0 j = M.1 c t 0 j := by
    show (if _ then _ else _) = _
    rw [if_neg (fun q => hj q.2.2.2)]
  have e2 : (zw M c t 0 k x).2 = M.2 := rfl
  rw [e1, e2]
theorem zfv_wl {M : zM} {c t k : Nat} {x : Int64} (h1 : zar c (k + 1) = none) (h2 : zob c k = none) (h3 : zlg c k = true) : zfv c t k (zwl M c t 0 k x) = zl x := by
  unfold zfv
  rw [h1, h2, h3]
  show zl (if _ then _ else _) = _
  rw [if_pos ⟨rfl, rfl, rfl, rfl⟩]
theorem zfv_wl' {M : zM} {c t k j : Nat} {x : Int64} (hj : j ≠ k) : zfv c t j (zwl M c t 0 k x) = zfv c t j M := by
  unfold zfv
  have e1 : (zwl M c t 0 k x).2 c t 0 j = M.2 c t 0 j := by
    show (if _ then _ else _) = _
    rw [if_neg (fun q => hj q.2.2.2)]
  have e2 : (zwl M c t 0 k x).1 = M.1 := rfl
  rw [e1, e2]
theorem znar_b {x : Int32} (h : zbl x) : narrow .boolean (.int x) = .int x ∧ fits .boolean (.int x) = true := by
  rcases h with rfl | rfl <;> decide
/-- fields and arrays written -/
theorem zs_write {i : Instr} (hi : zPre Γ μ Q K pc len a b z i) (h : zstep i a b z pc L st M (zEv Γ) Q K) (hp : match i with
  | .putfield _ | .iastore | .bastore | .lastore => True
  | _ => False) : zGo Γ μ Q pc L st M := by
  intro p e s m args below meth c H locs ls hG hC hP hS hl hn hLo hst
  have hCx := hC
  obtain ⟨hx, hb, hml, hown, hts, hr, hlocks, hK, hb0, hW0, hlow⟩ := hC
  have hcl : (zm μ).1 < 12 := zms_cl μ hi.1
  have hD := zwd_D (M := M) hG
  have go : ∀ {pc' : Nat} {st' : List zV} {M' : zM} {H' : Heap} {locs' : List Loc}, va_P Γ.2.1 vwCl (zwd Γ M') H' → va_S (zA Γ) s.heap H' locs' → K pc' L st' M' → (∀ v ∈ st', zok v) → W p Γ.1 e (zrm μ) s m args below meth c H' locs' 0 0 (MQ below (zQc Γ Q) args s 0 0 (zA Γ)) (F0 m pc' ls (st'.map (ztv Γ))) := fun h1 h2 hk hs => hi.2.2 _ _ _ _ hk p e s m args below meth c _ _ ls hG hCx h1 h2 hl hn hLo hs
  cases i <;> (try exact hp.elim)
  case putfield idx =>
    obtain ⟨hk, hk7⟩ := Bool.and_eq_true_iff.mp (Bool.and_eq_true_iff.mp hi.lk).2
    obtain ⟨hk, hk6⟩ := Bool.and_eq_true_iff.mp hk
    obtain ⟨hk, hk5⟩ := Bool.and_eq_true_iff.mp hk
    obtain ⟨hk, hk4⟩ := Bool.and_eq_true_iff.mp hk
    obtain ⟨hk, hk3⟩ := Bool.and_eq_true_iff.mp hk
    obtain ⟨hk1, hk2⟩ := Bool.and_eq_true_iff.mp hk
    have hk2 := zblt hk2
    have hk3 := zblt hk3
    have hk4 : (zT a b).2.2.2 = false := by simpa using hk4
    have hk5 : zar a (b + 1) = none := by simpa using hk5
    have hk6 : zob a b = none := by simpa using hk6
    have hty := ztyok hk3 b hk2
    have hflen : ∀ t, b < (zfs Γ M a t).length := fun t => by simp [zfs, hk2]
    rcases st with _ | ⟨v, _ | ⟨w, r⟩⟩
    · exact h.elim
    · rcases v with x | x | x <;> exact h.elim
    · rcases w with y | y | _ | ⟨c', t, f⟩
      · rcases v with x | x | x <;> exact h.elim
      · rcases v with x | x | x <;> exact h.elim
      · rcases v with x | x | x <;> exact h.elim
      · cases f with
        | succ f => rcases v with x | x | x <;> exact h.elim
        | zero =>
          have hm := zokh (zokt hst) _ rfl
          rcases v with x | x | x
          · obtain ⟨h0, h⟩ := zbif h
            have hc := Nat.eq_of_beq_eq_true h0
            subst hc
            obtain ⟨q0, g1, g2⟩ := zwd_at (Γ := Γ) (M := M) hm
            have hset : zlg c' b = false → (zwd Γ M).set q0 (Γ.2.2.2.1 (c', t, 0), .inr (c', (zfs Γ M c' t).set b (.int x))) = zwd Γ (zw M c' t 0 b x) := fun hlg => zwd_set g1 (by
              show Sum.inr (c', zfs Γ (zw M c' t 0 b x) c' t) = _
              rw [← zfs_set (Γ := Γ) (M := M) hk2 (zfv_w hk5 hk6 hlg) (fun j hj => zfv_w' hj)]
              rfl) zent_w
            match z, h, hk7 with
            | 0, h, hk7 =>
              obtain ⟨e1, e2⟩ := Bool.and_eq_true_iff.mp hk7
              have e1 := of_decide_eq_true e1
              have e2 : zlg c' b = false := by simpa using e2
              rw [e1] at hty
              refine va_put (D := Γ.2.1) (ci := c') (v := .int x) (ty := .int) (C := zR c') (T := zT c') (N := zN c') hx hb hts (zinW hk3) (zty c') (ztyok hk3) (znmok hk3) hown hK hP hD hS q0 g2 (zcl hk3) b hk2 (hts _ (zflok hcl (idx, c', b) (List.contains_iff_mem.mp hk1))) (fun _ h9 => h9) hk4 hty rfl rfl (hflen t) (hi.d rfl (by decide)) (fun H1 locs1 hP1 _ hS1 => ?_)
              rw [hset e2] at hP1
              exact go hP1 hS1 h (zokt (zokt hst))
            | 1, h, hk7 =>
              obtain ⟨e1, e2⟩ := Bool.and_eq_true_iff.mp hk7
              have e1 := of_decide_eq_true e1
              have e2 : zlg c' b = false := by simpa using e2
              rw [e1] at hty
              refine va_put (D := Γ.2.1) (ci := c') (v := .int x) (ty := .boolean) (C := zR c') (T := zT c') (N := zN c') hx hb hts (zinW hk3) (zty c') (ztyok hk3) (znmok hk3) hown hK hP hD hS q0 g2 (zcl hk3) b hk2 (hts _ (zflok hcl (idx, c', b) (List.contains_iff_mem.mp hk1))) (fun _ h9 => h9) hk4 hty (znar_b h.1).1 (znar_b h.1).2 (hflen t) (hi.d rfl (by decide)) (fun H1 locs1 hP1 _ hS1 => ?_)
              rw [hset e2] at hP1
              exact go hP1 hS1 h.2 (zokt (zokt hst))
          · obtain ⟨h0, h⟩ := zbif h
            have hc := Nat.eq_of_beq_eq_true h0
            subst hc
            obtain ⟨q0, g1, g2⟩ := zwd_at (Γ := Γ) (M := M) hm
            match z, h, hk7 with
            | 2, h, hk7 =>
              obtain ⟨e1, e2⟩ := Bool.and_eq_true_iff.mp hk7
              have e1 := of_decide_eq_true e1
              rw [e1] at hty
              refine va_put (D := Γ.2.1) (ci := c') (v := .long x) (ty := .long) (C := zR c') (T := zT c') (N := zN c') hx hb hts (zinW hk3) (zty c') (ztyok hk3) (znmok hk3) hown hK hP hD hS q0 g2 (zcl hk3) b hk2 (hts _ (zflok hcl (idx, c', b) (List.contains_iff_mem.mp hk1))) (fun _ h9 => h9) hk4 hty rfl rfl (hflen t) (hi.d rfl (by decide)) (fun H1 locs1 hP1 _ hS1 => ?_)
              have hset : (zwd Γ M).set q0 (Γ.2.2.2.1 (c', t, 0), .inr (c', (zfs Γ M c' t).set b (.long x))) = zwd Γ (zwl M c' t 0 b x) := zwd_set g1 (by
                show Sum.inr (c', zfs Γ (zwl M c' t 0 b x) c' t) = _
                rw [← zfs_set (Γ := Γ) (M := M) hk2 (zfv_wl hk5 hk6 e2) (fun j hj => zfv_wl' hj)]
                rfl) zent_wl
              rw [hset] at hP1
              exact go hP1 hS1 h (zokt (zokt hst))
          · exact h.elim
  case iastore =>
    rcases st with _ | ⟨v, _ | ⟨w, _ | ⟨u, r⟩⟩⟩
    · exact h.elim
    · rcases v with x | x | x <;> exact h.elim
    · rcases v with x | x | x <;> (try exact h.elim)
      rcases w with y | y | y <;> exact h.elim
    · rcases v with x | x | x <;> (try exact h.elim)
      rcases w with y | y | y <;> (try exact h.elim)
      rcases u with q | q | _ | ⟨c', t, f⟩ <;> (try exact h.elim)
      have hm := zokh (zokt (zokt hst)) _ rfl
      obtain ⟨q0, g1, g2⟩ := zwd_at (Γ := Γ) (M := M) hm
      have g3 : zent Γ (zw M c' t f y.toNatClampNeg x) (c', t, f) = zent Γ (zw M c' t f y.toNatClampNeg x) (c', t, f) := rfl
      unfold zent at g2
      conv at g3 => lhs; unfold zent
      dsimp only [zstep] at h
      dsimp only at g3
      cases hz : zar c' f with
      | none => rw [hz] at h; exact h.elim
      | some q =>
        obtain ⟨kd, n⟩ := q
        rw [hz] at h g2 g3
        match kd, h, g2, g3 with
        | 0, h, g2, g3 =>
          refine va_iast hx hb hK hP hD hS q0 0 g2 rfl h.1 (hi.d rfl (by decide)) (fun H1 locs1 hP1 _ hS1 => ?_)
          rw [← zw_arr M c' t f y.toNatClampNeg x] at hP1
          have hP2 : va_P Γ.2.1 vwCl ((zwd Γ M).set q0 (Γ.2.2.2.1 (c', t, f), zent Γ (zw M c' t f y.toNatClampNeg x) (c', t, f))) H1 := by rw [← g3]; exact hP1
          rw [zwd_set g1 rfl zent_w] at hP2
          exact go hP2 hS1 h.2 (zokt (zokt (zokt hst)))
  case bastore =>
    rcases st with _ | ⟨v, _ | ⟨w, _ | ⟨u, r⟩⟩⟩
    · exact h.elim
    · rcases v with x | x | x <;> exact h.elim
    · rcases v with x | x | x <;> (try exact h.elim)
      rcases w with y | y | y <;> exact h.elim
    · rcases v with x | x | x <;> (try exact h.elim)
      rcases w with y | y | y <;> (try exact h.elim)
      rcases u with q | q | _ | ⟨c', t, f⟩ <;> (try exact h.elim)
      have hm := zokh (zokt (zokt hst)) _ rfl
      obtain ⟨q0, g1, g2⟩ := zwd_at (Γ := Γ) (M := M) hm
      have g3 : ∀ x', zent Γ (zw M c' t f y.toNatClampNeg x') (c', t, f) = (match zar c' f with
        | some q => .inl (zac Γ c' q.1, q.2, zcont Γ (zw M c' t f y.toNatClampNeg x') q.1 c' t f)
        | none => .inr (c', zfs Γ (zw M c' t f y.toNatClampNeg x') c' t)) := fun _ => rfl
      unfold zent at g2
      dsimp only [zstep] at h
      cases hz : zar c' f with
      | none => rw [hz] at h; exact h.elim
      | some q =>
        obtain ⟨kd, n⟩ := q
        rw [hz] at h g2 g3
        match kd, h, g2, g3 with
        | 2, h, g2, g3 =>
          refine va_zast hx hb hK hP hD hS q0 2 g2 rfl h.1 (hi.d rfl (by decide)) (fun H1 locs1 hP1 _ hS1 => ?_)
          rw [← zw_arr M c' t f y.toNatClampNeg (vp_nar .boolean x)] at hP1
          have hP2 : va_P Γ.2.1 vwCl ((zwd Γ M).set q0 (Γ.2.2.2.1 (c', t, f), zent Γ (zw M c' t f y.toNatClampNeg (vp_nar .boolean x)) (c', t, f))) H1 := by rw [g3]; exact hP1
          rw [zwd_set g1 rfl zent_w] at hP2
          exact go hP2 hS1 h.2 (zokt (zokt (zokt hst)))
        | 3, h, g2, g3 =>
          refine va_bast hx hb hK hP hD hS q0 3 g2 rfl h.1 (hi.d rfl (by decide)) (fun H1 locs1 hP1 _ hS1 => ?_)
          rw [← zw_arr M c' t f y.toNatClampNeg (vp_nar .byte x)] at hP1
          have hP2 : va_P Γ.2.1 vwCl ((zwd Γ M).set q0 (Γ.2.2.2.1 (c', t, f), zent Γ (zw M c' t f y.toNatClampNeg (vp_nar .byte x)) (c', t, f))) H1 := by rw [g3]; exact hP1
          rw [zwd_set g1 rfl zent_w] at hP2
          exact go hP2 hS1 h.2 (zokt (zokt (zokt hst)))
  case lastore =>
    rcases st with _ | ⟨v, _ | ⟨w, _ | ⟨u, r⟩⟩⟩
    · exact h.elim
    · rcases v with x | x | x <;> exact h.elim
    · rcases v with x | x | x <;> (try exact h.elim)
      rcases w with y | y | y <;> exact h.elim
    · rcases v with x | x | x <;> (try exact h.elim)
      rcases w with y | y | y <;> (try exact h.elim)
      rcases u with q | q | _ | ⟨c', t, f⟩ <;> (try exact h.elim)
      have hm := zokh (zokt (zokt hst)) _ rfl
      obtain ⟨q0, g1, g2⟩ := zwd_at (Γ := Γ) (M := M) hm
      have g3 : ∀ x', zent Γ (zwl M c' t f y.toNatClampNeg x') (c', t, f) = (match zar c' f with
        | some q => .inl (zac Γ c' q.1, q.2, zcont Γ (zwl M c' t f y.toNatClampNeg x') q.1 c' t f)
        | none => .inr (c', zfs Γ (zwl M c' t f y.toNatClampNeg x') c' t)) := fun _ => rfl
      unfold zent at g2
      dsimp only [zstep] at h
      cases hz : zar c' f with
      | none => rw [hz] at h; exact h.elim
      | some q =>
        obtain ⟨kd, n⟩ := q
        rw [hz] at h g2 g3
        match kd, h, g2, g3 with
        | 1, h, g2, g3 =>
          refine va_last hx hb hK hP hD hS q0 1 g2 rfl h.1 (hi.d rfl (by decide)) (fun H1 locs1 hP1 _ hS1 => ?_)
          rw [← zwl_arr M c' t f y.toNatClampNeg x] at hP1
          have hP2 : va_P Γ.2.1 vwCl ((zwd Γ M).set q0 (Γ.2.2.2.1 (c', t, f), zent Γ (zwl M c' t f y.toNatClampNeg x) (c', t, f))) H1 := by rw [g3]; exact hP1
          rw [zwd_set g1 rfl zent_wl] at hP2
          exact go hP2 hS1 h.2 (zokt (zokt (zokt hst)))
end ZW
