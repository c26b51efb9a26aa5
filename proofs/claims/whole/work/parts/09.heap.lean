section ZH
variable {Γ : zC} {μ : Nat} {Q : zQ} {K : zK} {pc len a b : Nat} {z : Int} {L : zL} {st : List zV} {M : zM}
/-- the locals change, the memory stays -/
theorem zs_store {i : Instr} (hi : zPre Γ μ Q K pc len a b z i) (h : zstep i a b z pc L st M (zEv Γ) Q K) (hp : match i with
  | .istore_n _ | .istore _ | .lstore_n _ | .lstore _ | .astore_n _ | .astore _ | .iinc _ _ => True
  | _ => False) : zGo Γ μ Q pc L st M := by
  intro p e s m args below meth c H locs ls hG hC hP hS hl hn hLo hst
  have hCx := hC
  obtain ⟨hx, hb, -⟩ := hC
  have go1 : ∀ {pc' k : Nat} {v : zV} {st' : List zV} {ls' : Array Slot}, k < L.length → zok v → lv_has ls' L.length ((k, ztv Γ v) :: (zla Γ L).filter (fun q => !(q.1 == k) && !(q.1 + 1 == k && q.2.category == 2))) → K pc' (zset L k v) st' M → (∀ v ∈ st', zok v) → W p Γ.1 e (zrm μ) s m args below meth c H locs 0 0 (MQ below (zQc Γ Q) args s 0 0 (zA Γ)) (F0 m pc' ls' (st'.map (ztv Γ))) := fun hk hv h1 h2 hs => hi.2.2 _ _ _ _ h2 p e s m args below meth c H locs _ hG hCx hP hS (zLr.set1 hk h1) (by rw [zset_len]; exact hn) (hLo.set hk hv) hs
  have go2 : ∀ {pc' k : Nat} {v : zV} {st' : List zV} {ls' : Array Slot}, k < L.length → zok v → lv_has ls' L.length ((k, ztv Γ v) :: (zla Γ L).filter (fun q => !(q.1 == k) && (!(q.1 == k + 1) && !(q.1 + 1 == k && q.2.category == 2)))) → K pc' (zclr (zset L k v) (k + 1)) st' M → (∀ v ∈ st', zok v) → W p Γ.1 e (zrm μ) s m args below meth c H locs 0 0 (MQ below (zQc Γ Q) args s 0 0 (zA Γ)) (F0 m pc' ls' (st'.map (ztv Γ))) := fun hk hv h1 h2 hs => hi.2.2 _ _ _ _ h2 p e s m args below meth c H locs _ hG hCx hP hS (zLr.set2 hk h1) (by rw [zclr_len, zset_len]; exact hn) ((hLo.set hk hv).clr) hs
  cases i <;> (try exact hp.elim)
  case istore_n n =>
    obtain ⟨x, r, rfl, h⟩ := zs1_spec h
    obtain ⟨h0, h⟩ := zbif h
    exact lv_istore_n hx hb (hi.d rfl (by decide)) rfl hl.has (zblt h0) rfl (fun ls' h' => go1 (v := zi x) (zblt h0) (zok_i x) h' h (zokt hst))
  case istore n =>
    obtain ⟨x, r, rfl, h⟩ := zs1_spec h
    obtain ⟨h0, h⟩ := zbif h
    exact lv_istore hx hb (hi.d rfl (by decide)) hl.has (zblt h0) rfl (fun ls' h' => go1 (v := zi x) (zblt h0) (zok_i x) h' h (zokt hst))
  case lstore_n n =>
    rcases st with _ | ⟨v, r⟩
    · exact h.elim
    · rcases v with x | x | x
      · exact h.elim
      · obtain ⟨h0, h⟩ := zbif h
        have h1 := zblt h0
        exact lv_lstore_n hx hb (hi.d rfl (by decide)) rfl hl.has h1 rfl (fun ls' h' => go2 (v := zl x) (by omega) (zok_l x) h' h (zokt hst))
      · exact h.elim
  case lstore n =>
    rcases st with _ | ⟨v, r⟩
    · exact h.elim
    · rcases v with x | x | x
      · exact h.elim
      · obtain ⟨h0, h⟩ := zbif h
        have h1 := zblt h0
        exact lv_lstore hx hb (hi.d rfl (by decide)) hl.has h1 rfl (fun ls' h' => go2 (v := zl x) (by omega) (zok_l x) h' h (zokt hst))
      · exact h.elim
  case astore_n n =>
    rcases st with _ | ⟨v, r⟩
    · exact h.elim
    · rcases v with x | x | x
      · exact h.elim
      · exact h.elim
      · obtain ⟨h0, h⟩ := zbif h
        cases x with
        | none => exact lv_astore_nN hx hb (hi.d rfl (by decide)) rfl hl.has (zblt h0) rfl (fun ls' h' => go1 (v := zn) (zblt h0) zok_n h' h (zokt hst))
        | some q => exact lv_astore_n hx hb (hi.d rfl (by decide)) rfl hl.has (zblt h0) rfl (fun ls' h' => go1 (v := .inr (.inr (some q))) (zblt h0) (zokh hst) h' h (zokt hst))
  case astore n =>
    rcases st with _ | ⟨v, r⟩
    · exact h.elim
    · rcases v with x | x | x
      · exact h.elim
      · exact h.elim
      · obtain ⟨h0, h⟩ := zbif h
        cases x with
        | none => exact lv_astoreN hx hb (hi.d rfl (by decide)) hl.has (zblt h0) rfl (fun ls' h' => go1 (v := zn) (zblt h0) zok_n h' h (zokt hst))
        | some q => exact lv_astore hx hb (hi.d rfl (by decide)) hl.has (zblt h0) rfl (fun ls' h' => go1 (v := .inr (.inr (some q))) (zblt h0) (zokh hst) h' h (zokt hst))
  case iinc n d =>
    obtain ⟨h0, h⟩ := zbif h
    obtain ⟨x, h1, h⟩ := zsti_spec h
    obtain ⟨k, hk⟩ := List.getElem?_of_mem (zla_mem (Γ := Γ) (L := L) (q := (n, .int x)) |>.mpr ⟨zi x, h1, rfl⟩)
    exact lv_iinc hx hb (hi.d rfl (by decide)) hl.has hk rfl (zblt h0) rfl (fun ls' h' => go1 (v := zi (x + Int32.ofInt d)) (zblt h0) (zok_i _) h' h hst)
/-- constants of the pool, switches, fields and arrays read -/
theorem zs_read {i : Instr} (hi : zPre Γ μ Q K pc len a b z i) (h : zstep i a b z pc L st M (zEv Γ) Q K) (hp : match i with
  | .ldc _ | .ldc_w _ | .ldc2_w _ | .tableswitch _ _ _ _ | .getfield _ | .iaload | .baload | .laload | .aaload => True
  | _ => False) : zGo Γ μ Q pc L st M := by
  intro p e s m args below meth c H locs ls hG hC hP hS hl hn hLo hst
  have hCx := hC
  obtain ⟨hx, hb, hml, hown, hts, hr, hlocks, hK, hb0, hW0, hlow⟩ := hC
  have hcl : (zm μ).1 < 12 := zms_cl μ hi.1
  have go : ∀ {pc' : Nat} {st' : List zV}, K pc' L st' M → (∀ v ∈ st', zok v) → W p Γ.1 e (zrm μ) s m args below meth c H locs 0 0 (MQ below (zQc Γ Q) args s 0 0 (zA Γ)) (F0 m pc' ls (st'.map (ztv Γ))) := fun hk hs => hi.2.2 _ _ _ _ hk p e s m args below meth c H locs ls hG hCx hP hS hl hn hLo hs
  cases i <;> (try exact hp.elim)
  case ldc idx =>
    have hk := (Bool.and_eq_true_iff.mp hi.lk).2
    match b, h, hk with
    | 0, h, hk =>
      have h2 := (Bool.and_eq_true_iff.mp ((Bool.or_eq_true_iff.mp hk).resolve_left (by decide))).2
      exact lv_ldc hx hb hown (hts _ (zciok hcl (idx, z) (List.contains_iff_mem.mp h2))) (hi.d rfl (by decide)) (go h (zokc (zok_i _) hst))
    | _ + 1, h, _ => exact h.elim
  case ldc_w idx =>
    have hk := (Bool.and_eq_true_iff.mp hi.lk).2
    exact lv_ldcw hx hb hown (hts _ (zciok hcl (idx, z) (List.contains_iff_mem.mp hk))) (hi.d rfl (by decide)) (go h (zokc (zok_i _) hst))
  case ldc2_w idx =>
    have hk := (Bool.and_eq_true_iff.mp hi.lk).2
    exact lv_ldc2 hx hb hown (hts _ (zcLok hcl (idx, z) (List.contains_iff_mem.mp hk))) (hi.d rfl (by decide)) (go h (zokc (zok_l _) hst))
  case tableswitch d lo hh offs =>
    have hk : (decide (hh = lo + offs.toList.length - 1) && decide (0 ≤ (pc : Int) + d) && offs.toList.all (fun o => decide (0 ≤ (pc : Int) + o))) = true := hi.lk
    obtain ⟨hk, hk3⟩ := Bool.and_eq_true_iff.mp hk
    obtain ⟨hk1, hk2⟩ := Bool.and_eq_true_iff.mp hk
    have hk1 := of_decide_eq_true hk1
    have hk2 := of_decide_eq_true hk2
    obtain ⟨x, r, rfl, h1, h2⟩ := zs1_spec h
    by_cases q1 : x.toInt < lo ∨ lo + offs.toList.length ≤ x.toInt
    · exact lv_tableOut hx hb hi.dec (q1.elim Or.inl (fun q => Or.inr (by omega))) (by omega) (go (h1 q1) (zokt hst))
    · have q2 : ¬ x.toInt < lo := fun q => q1 (Or.inl q)
      have q3 : x.toInt < lo + offs.toList.length := by
        have := fun q => q1 (Or.inr q)
        omega
      obtain ⟨o, ho, hk4⟩ := ztsw_at _ _ h2 q2 q3
      have ho2 : offs[(x.toInt - lo).toNat]? = some o := by rw [← Array.getElem?_toList]; exact ho
      have hk5 := of_decide_eq_true (List.all_eq_true.mp hk3 o (List.mem_of_getElem? ho))
      exact lv_tableIn hx hb hi.dec q2 (by omega) ho2 (by omega) (go hk4 (zokt hst))
  case getfield idx =>
    obtain ⟨hk, hk3⟩ := Bool.and_eq_true_iff.mp (Bool.and_eq_true_iff.mp hi.lk).2
    obtain ⟨hk1, hk2⟩ := Bool.and_eq_true_iff.mp hk
    have hk2 := zblt hk2
    have hk3 := zblt hk3
    rcases st with _ | ⟨v, r⟩
    · exact h.elim
    · rcases v with x | x | _ | ⟨c', t, f⟩
      · exact h.elim
      · exact h.elim
      · exact h.elim
      · cases f with
        | succ f => exact h.elim
        | zero =>
          obtain ⟨h0, h⟩ := zbif h
          have hc := Nat.eq_of_beq_eq_true h0
          subst hc
          have hm := zokh hst _ rfl
          obtain ⟨q0, g1, g2⟩ := zwd_at (Γ := Γ) (M := M) hm
          exact va_get (D := Γ.2.1) (ci := c') (C := zR c') (T := zT c') (N := zN c') hx hb hts (zinW hk3) hown hK hP q0 g2 (zcl hk3) b hk2 (hts _ (zflok hcl (idx, c', b) (List.contains_iff_mem.mp hk1))) (fun _ h9 => h9) (zfs_at hk2) (hi.d rfl (by decide)) (go h (zokc (zfv_ok hm hk2) (zokt hst)))
  case iaload =>
    rcases st with _ | ⟨v, _ | ⟨w, r⟩⟩
    · exact h.elim
    · rcases v with x | x | x <;> exact h.elim
    · rcases v with x | x | x
      · rcases w with y | y | _ | ⟨c', t, f⟩
        · exact h.elim
        · exact h.elim
        · exact h.elim
        · have hm := zokh (zokt hst) _ rfl
          obtain ⟨q0, g1, g2⟩ := zwd_at (Γ := Γ) (M := M) hm
          unfold zent at g2
          dsimp only [zstep] at h
          cases hz : zar c' f with
          | none => rw [hz] at h; exact h.elim
          | some q =>
            obtain ⟨kd, n⟩ := q
            rw [hz] at h g2
            match kd, h, g2 with
            | 0, h, g2 => exact va_iald hx hb hK hP q0 0 g2 rfl h.1 (hi.d rfl (by decide)) (go h.2 (zokc (zok_i _) (zokt (zokt hst))))
      · exact h.elim
      · exact h.elim
  case baload =>
    rcases st with _ | ⟨v, _ | ⟨w, r⟩⟩
    · exact h.elim
    · rcases v with x | x | x <;> exact h.elim
    · rcases v with x | x | x
      · rcases w with y | y | _ | ⟨c', t, f⟩
        · exact h.elim
        · exact h.elim
        · exact h.elim
        · have hm := zokh (zokt hst) _ rfl
          obtain ⟨q0, g1, g2⟩ := zwd_at (Γ := Γ) (M := M) hm
          unfold zent at g2
          dsimp only [zstep] at h
          cases hz : zar c' f with
          | none => rw [hz] at h; exact h.elim
          | some q =>
            obtain ⟨kd, n⟩ := q
            rw [hz] at h g2
            match kd, h, g2 with
            | 2, h, g2 => exact va_zald hx hb hK hP q0 2 g2 rfl h.1 (hi.d rfl (by decide)) (go h.2 (zokc (zok_i _) (zokt (zokt hst))))
            | 3, h, g2 => exact va_bald hx hb hK hP q0 3 g2 rfl h.1 (hi.d rfl (by decide)) (go h.2 (zokc (zok_i _) (zokt (zokt hst))))
      · exact h.elim
      · exact h.elim
  case laload =>
    rcases st with _ | ⟨v, _ | ⟨w, r⟩⟩
    · exact h.elim
    · rcases v with x | x | x <;> exact h.elim
    · rcases v with x | x | x
      · rcases w with y | y | _ | ⟨c', t, f⟩
        · exact h.elim
        · exact h.elim
        · exact h.elim
        · have hm := zokh (zokt hst) _ rfl
          obtain ⟨q0, g1, g2⟩ := zwd_at (Γ := Γ) (M := M) hm
          unfold zent at g2
          dsimp only [zstep] at h
          cases hz : zar c' f with
          | none => rw [hz] at h; exact h.elim
          | some q =>
            obtain ⟨kd, n⟩ := q
            rw [hz] at h g2
            match kd, h, g2 with
            | 1, h, g2 => exact va_lald hx hb hK hP q0 1 g2 rfl h.1 (hi.d rfl (by decide)) (go h.2 (zokc (zok_l _) (zokt (zokt hst))))
      · exact h.elim
      · exact h.elim
  case aaload =>
    rcases st with _ | ⟨v, _ | ⟨w, r⟩⟩
    · exact h.elim
    · rcases v with x | x | x <;> exact h.elim
    · rcases v with x | x | x
      · rcases w with y | y | _ | ⟨c', t, f⟩
        · exact h.elim
        · exact h.elim
        · exact h.elim
        · have hm := zokh (zokt hst) _ rfl
          obtain ⟨q0, g1, g2⟩ := zwd_at (Γ := Γ) (M := M) hm
          have h4 := zar_4 _ hm
          have h5 := zparts_rf _ hm
          unfold zent at g2
          dsimp only [zstep] at h
          dsimp only at h4 h5
          cases hz : zar c' f with
          | none => rw [hz] at h; exact h.elim
          | some q =>
            obtain ⟨kd, n⟩ := q
            rw [hz] at h g2 h4 h5
            match kd, h, g2, h4, h5 with
            | 4, h, g2, h4, h5 =>
              have h4 : (n == 3 && (c' == 8 || c' == 9)) = true := by simpa using h4
              obtain ⟨e1, e2⟩ := Bool.and_eq_true_iff.mp h4
              have hn3 : n = 3 := by simpa using e1
              subst hn3
              have hx3 : x.toNatClampNeg < 3 := Nat.not_le.mp fun q => h.1 (Or.inr q)
              have hok := zok_o (h5 rfl _ hx3)
              rcases Bool.or_eq_true_iff.mp e2 with e3 | e3
              · have e4 : c' = 8 := by simpa using e3
                subst e4
                exact va_aldq hx hb hK hP q0 4 g2 rfl h.1 (hi.d rfl (by decide)) (go h.2 (zokc hok (zokt (zokt hst))))
              · have e4 : c' = 9 := by simpa using e3
                subst e4
                exact va_aldq hx hb hK hP q0 5 g2 rfl h.1 (hi.d rfl (by decide)) (go h.2 (zokc hok (zokt (zokt hst))))
      · exact h.elim
      · exact h.elim
end ZH
