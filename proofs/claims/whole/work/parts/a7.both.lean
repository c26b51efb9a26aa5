/-! each method of the class beside the reference's: the same answer, and what holds between calls holds behind -/
theorem Off.ww {P : Nat → Nat → Nat → Nat → Prop} {A B : zM} {c t f i : Nat} {x : Int32} (h : Off P A B) : Off P (zw A c t f i x) (zw B c t f i x) := ⟨fun c' t' f' i' q => by
  rw [zw_get, zw_get]
  split
  · rfl
  · exact h.1 _ _ _ _ q, fun c' t' f' i' q => h.2 _ _ _ _ q⟩
theorem zw_comm {M : zM} {c t f i c' t' f' i' : Nat} {x y : Int32} (hne : ¬ (c' = c ∧ t' = t ∧ f' = f ∧ i' = i)) : zw (zw M c t f i x) c' t' f' i' y = zw (zw M c' t' f' i' y) c t f i x := by
  refine Prod.ext ?_ rfl
  funext a b d e
  rw [zw_get, zw_get, zw_get, zw_get]
  by_cases h1 : a = c' ∧ b = t' ∧ d = f' ∧ e = i'
  · rw [if_pos h1, if_neg (fun h2 => hne ⟨h1.1.symm.trans h2.1, h1.2.1.symm.trans h2.2.1, h1.2.2.1.symm.trans h2.2.2.1, h1.2.2.2.symm.trans h2.2.2.2⟩), if_pos h1]
  · rw [if_neg h1, if_neg h1]
theorem Kp.ofSl {M M' : zM} (o : Off rSl M M') : Kp M M' := Kp.ofR (o.wk (by unfold rSl rSc; intro c t f i; omega))
section Za7
variable {Γ : zC}
theorem both_q {κ μc μr : Nat} {as : List zV} {v : Nat → (Nat → SB) → zV} (hc : ∀ (M : zM) (Q : zQ) (cnt : Nat) (SS : Nat → SB), cW M cnt SS → (∀ t, t < 4 → lI M t) → (∀ M', Kp M M' → Q (some (v cnt SS)) M') → zEv Γ μc (zo 9 0 0 :: as) M Q) (hk : ∀ cnt SS, kdV κ (v cnt SS)) (hr : ∀ (M : zM) (Q : zQ) (cnt : Nat) (SS : Nat → SB), rW M cnt SS → M.1 10 0 0 21 = iz (-1) → (∀ M', Kp M M' → Q (some (v cnt SS)) M') → zEv Γ μr (zo 10 0 0 :: as) M Q) : Both Γ κ μc μr as := by
  intro M Q hI hQ
  obtain ⟨cnt, len, SS, h⟩ := hI.1
  refine hc M Q cnt SS h.cW hI.2.2.1 (fun M1 k1 => hQ _ _ (hk cnt SS) ?_)
  have hI1 := hI.kp k1
  have h1 := h.kp (by omega) k1
  exact hr M1 _ cnt SS h1.rW hI1.2.2.2 (fun M2 k2 => ⟨rfl, hI1.kp k2⟩)
theorem both_about {x w : Int32} : Both Γ 0 112 194 [zi x, zi w] := both_q (v := fun cnt SS => zi (iz (fS cnt SS x (fun S => gAbout S w) (-1)))) (fun M Q cnt SS hW hI h => c_about hW (h M (Kp.rf M))) (fun _ _ => ⟨_, rfl⟩) (fun M Q cnt SS hW ht h => r_about hW (fun M1 o => h M1 (Kp.ofSl o)))
theorem both_worth {x y w : Int32} : Both Γ 0 113 195 [zi x, zi y, zi w] := both_q (v := fun cnt SS => zi (iz (fS cnt SS x (fun S => gWorth S y w) (-1)))) (fun M Q cnt SS hW hI h => c_worth hW (h M (Kp.rf M))) (fun _ _ => ⟨_, rfl⟩) (fun M Q cnt SS hW ht h => r_worth hW ht h)
theorem both_stands {x y : Int32} : Both Γ 0 116 198 [zi x, zi y] := both_q (v := fun cnt SS => zi (iz (fS cnt SS x (fun S => gStands S y) (-1)))) (fun M Q cnt SS hW hI h => c_stands hW hI h) (fun _ _ => ⟨_, rfl⟩) (fun M Q cnt SS hW ht h => r_stands hW ht h)
theorem both_pay {x y g : Int32} : Both Γ 0 117 199 [zi x, zi y, zi g] := both_q (v := fun cnt SS => zi (iz (fS cnt SS x (fun S => gPay S y g) (-100000)))) (fun M Q cnt SS hW hI h => c_pay hW hI h) (fun _ _ => ⟨_, rfl⟩) (fun M Q cnt SS hW ht h => r_pay hW ht h)
theorem both_take {x : Int32} : Both Γ 0 118 201 [zi x] := both_q (v := fun cnt SS => zi (iz (fS cnt SS x gTake (-1)))) (fun M Q cnt SS hW hI h => c_take hW hI h) (fun _ _ => ⟨_, rfl⟩) (fun M Q cnt SS hW ht h => r_take hW ht h)
theorem both_rather {x w : Int32} : Both Γ 0 119 202 [zi x, zi w] := both_q (v := fun cnt SS => zi (iz (fS cnt SS x (fun S => gRather S w) (-1)))) (fun M Q cnt SS hW hI h => c_rather hW hI h) (fun _ _ => ⟨_, rfl⟩) (fun M Q cnt SS hW ht h => r_rather hW ht h)
theorem both_reply {x y : Int32} : Both Γ 0 120 204 [zi x, zi y] := both_q (v := fun cnt SS => zi (iz (fS cnt SS x (fun S => gReply S y) (-1)))) (fun M Q cnt SS hW hI h => c_reply hW hI h) (fun _ _ => ⟨_, rfl⟩) (fun M Q cnt SS hW ht h => r_reply hW ht h)
theorem both_restless {x : Int32} : Both Γ 0 121 205 [zi x] := both_q (v := fun cnt SS => zi (iz (fS cnt SS x gRestless (-1)))) (fun M Q cnt SS hW hI h => c_restless hW hI h) (fun _ _ => ⟨_, rfl⟩) (fun M Q cnt SS hW ht h => r_restless hW ht h)
theorem both_replies {x y : Int32} : Both Γ 0 122 208 [zi x, zi y] := both_q (v := fun cnt SS => zi (iz (fS cnt SS x (fun S => gReplies S y) (-1)))) (fun M Q cnt SS hW hI h => c_replies hW hI h) (fun _ _ => ⟨_, rfl⟩) (fun M Q cnt SS hW ht h => r_replies hW ht h)
theorem both_rests {x y : Int32} : Both Γ 0 123 212 [zi x, zi y] := both_q (v := fun cnt SS => zi (iz (fS cnt SS x (fun S => gRests S y) (-1)))) (fun M Q cnt SS hW hI h => c_rests hW hI h) (fun _ _ => ⟨_, rfl⟩) (fun M Q cnt SS hW ht h => r_rests hW ht h)
theorem both_rest {x y k i : Int32} : Both Γ 0 124 213 [zi x, zi y, zi k, zi i] := both_q (v := fun cnt SS => zi (iz (fS cnt SS x (fun S => gRest S y k i) (-1)))) (fun M Q cnt SS hW hI h => c_rest hW hI h) (fun _ _ => ⟨_, rfl⟩) (fun M Q cnt SS hW ht h => r_rest hW ht h)
theorem both_best {x y : Int32} : Both Γ 0 125 218 [zi x, zi y] := both_q (v := fun cnt SS => zi (iz (fS cnt SS x (fun S => gBest S y) (-1)))) (fun M Q cnt SS hW hI h => c_best hW hI h) (fun _ _ => ⟨_, rfl⟩) (fun M Q cnt SS hW ht h => r_best hW ht h)
theorem both_even {x y m : Int32} : Both Γ 0 126 219 [zi x, zi y, zi m] := both_q (v := fun cnt SS => zi (iz (fS cnt SS x (fun S => gEven S y m) (-1)))) (fun M Q cnt SS hW hI h => c_even hW h) (fun _ _ => ⟨_, rfl⟩) (fun M Q cnt SS hW ht h => r_even hW ht h)
theorem both_truly {x y : Int32} : Both Γ 0 127 220 [zi x, zi y] := both_q (v := fun cnt SS => zi (iz (fS cnt SS x (fun S => gTruly S y) (-1)))) (fun M Q cnt SS hW hI h => c_truly hW h) (fun _ _ => ⟨_, rfl⟩) (fun M Q cnt SS hW ht h => r_truly hW ht h)
theorem both_judged {x : Int32} : Both Γ 0 129 222 [zi x] := both_q (v := fun cnt SS => zi (iz (fS cnt SS x gJudged (-1)))) (fun M Q cnt SS hW hI h => c_judged hW h) (fun _ _ => ⟨_, rfl⟩) (fun M Q cnt SS hW ht h => r_judged hW ht h)
theorem both_parts {x : Int32} : Both Γ 1 130 224 [zi x] := both_q (v := fun cnt SS => zl (fL cnt SS x gParts (-1))) (fun M Q cnt SS hW hI h => c_parts hW (h M (Kp.rf M))) (fun _ _ => ⟨_, rfl⟩) (fun M Q cnt SS hW ht h => r_parts hW h)
theorem both_taken {x y : Int32} : Both Γ 1 131 226 [zi x, zi y] := both_q (v := fun cnt SS => zl (fL cnt SS x (fun S => gTaken S y) (-1))) (fun M Q cnt SS hW hI h => c_taken hW hI h) (fun _ _ => ⟨_, rfl⟩) (fun M Q cnt SS hW ht h => r_taken hW h)
theorem both_high {x : Int32} : Both Γ 0 132 227 [zi x] := both_q (v := fun cnt SS => zi (iz (fS cnt SS x gHigh (-1)))) (fun M Q cnt SS hW hI h => c_high hW hI h) (fun _ _ => ⟨_, rfl⟩) (fun M Q cnt SS hW ht h => r_high hW h)
theorem both_day {x y w : Int32} : Both Γ 0 133 229 [zi x, zi y, zi w] := both_q (v := fun cnt SS => zi (iz (fS cnt SS x (fun S => gDay S y w) (-1)))) (fun M Q cnt SS hW hI h => c_day hW hI h) (fun _ _ => ⟨_, rfl⟩) (fun M Q cnt SS hW ht h => r_day hW h)
theorem both_spent {x y : Int32} : Both Γ 0 134 230 [zi x, zi y] := both_q (v := fun cnt SS => zi (iz (fS cnt SS x (fun S => gSpent S y) (-1)))) (fun M Q cnt SS hW hI h => c_spent hW hI h) (fun _ _ => ⟨_, rfl⟩) (fun M Q cnt SS hW ht h => r_spent hW h)
theorem both_beside {x y : Int32} : Both Γ 0 135 234 [zi x, zi y] := both_q (v := fun cnt SS => zi (iz (fS cnt SS x (fun S => gBeside S y) (-100000)))) (fun M Q cnt SS hW hI h => c_beside hW h) (fun _ _ => ⟨_, rfl⟩) (fun M Q cnt SS hW ht h => r_beside hW ht h)
theorem both_come {x y w : Int32} : Both Γ 0 136 235 [zi x, zi y, zi w] := both_q (v := fun cnt SS => zi (iz (fS cnt SS x (fun S => gCome S y w) (-1)))) (fun M Q cnt SS hW hI h => c_come hW hI h) (fun _ _ => ⟨_, rfl⟩) (fun M Q cnt SS hW ht h => r_come hW ht h)
theorem both_spared {x y : Int32} : Both Γ 0 137 237 [zi x, zi y] := both_q (v := fun cnt SS => zi (iz (fS cnt SS x (fun S => gSpared S y) (-1000000)))) (fun M Q cnt SS hW hI h => c_spared hW hI h) (fun _ _ => ⟨_, rfl⟩) (fun M Q cnt SS hW ht h => r_spared hW ht h)
theorem both_breaks {x : Int32} : Both Γ 0 138 238 [zi x] := both_q (v := fun cnt SS => zi (iz (fS cnt SS x gBreaks (-1)))) (fun M Q cnt SS hW hI h => c_breaks hW hI h) (fun _ _ => ⟨_, rfl⟩) (fun M Q cnt SS hW ht h => r_breaks hW ht h)
theorem both_mark {x y : Int32} : Both Γ 0 139 239 [zi x, zi y] := both_q (v := fun cnt SS => zi (iz (fS cnt SS x (fun S => gMark S y) (-1)))) (fun M Q cnt SS hW hI h => c_mark hW hI h) (fun _ _ => ⟨_, rfl⟩) (fun M Q cnt SS hW ht h => r_mark hW ht h)
theorem both_without {x y : Int32} : Both Γ 0 140 240 [zi x, zi y] := both_q (v := fun cnt SS => zi (iz (fS cnt SS x (fun S => gWithout S y) (-1)))) (fun M Q cnt SS hW hI h => c_without hW hI h) (fun _ _ => ⟨_, rfl⟩) (fun M Q cnt SS hW ht h => r_without hW ht h)
theorem both_guess {x y m : Int32} : Both Γ 1 141 242 [zi x, zi y, zi m] := both_q (v := fun cnt SS => zl (fL cnt SS x (fun S => gGuess S y m) (-4000000000000000000))) (fun M Q cnt SS hW hI h => c_guess hW hI h) (fun _ _ => ⟨_, rfl⟩) (fun M Q cnt SS hW ht h => r_guess hW ht h)
theorem both_pair {x y z w : Int32} : Both Γ 0 142 243 [zi x, zi y, zi z, zi w] := both_q (v := fun cnt SS => zi (iz (fS cnt SS x (fun S => gPair S y z w) (-100000)))) (fun M Q cnt SS hW hI h => c_pair hW hI h) (fun _ _ => ⟨_, rfl⟩) (fun M Q cnt SS hW ht h => r_pair hW ht h)
theorem both_tells {x y v m : Int32} : Both Γ 0 143 244 [zi x, zi y, zi v, zi m] := both_q (v := fun cnt SS => zi (iz (fS cnt SS x (fun S => gTells S y v m) (-100000)))) (fun M Q cnt SS hW hI h => c_tells hW h) (fun _ _ => ⟨_, rfl⟩) (fun M Q cnt SS hW ht h => r_tells hW ht h)
theorem both_climb {x y w : Int32} (hst : zSt Γ) : Both Γ 0 144 249 [zi x, zi y, zi w] := both_q (v := fun cnt SS => zi (iz (fS cnt SS x (fun S => gClimb S y w) (-1)))) (fun M Q cnt SS hW hI h => c_climb hst hW h) (fun _ _ => ⟨_, rfl⟩) (fun M Q cnt SS hW ht h => r_climb hW ht h)
theorem both_climbs {x : Int32} (hst : zSt Γ) : Both Γ 0 145 250 [zi x] := both_q (v := fun cnt SS => zi (iz (fS cnt SS x gClimbs (-1)))) (fun M Q cnt SS hW hI h => c_climbs hst hW h) (fun _ _ => ⟨_, rfl⟩) (fun M Q cnt SS hW ht h => r_climbs hW ht h)
theorem both_fault {x : Int32} : Both Γ 0 111 176 [zi x] := by
  intro M Q hI hQ
  obtain ⟨cnt, len, SS, h⟩ := hI.1
  refine c_fault (hQ _ _ ⟨_, rfl⟩ (r_fault ⟨?_, hI⟩))
  have e2 : M.1 10 0 1 2 = M.1 8 0 0 2 := h.2.2.1
  have e3 : M.1 10 0 1 3 = M.1 8 0 0 3 := h.2.2.2.1
  rw [e2, e3]
theorem both_count : Both Γ 0 146 251 [] := by
  intro M Q hI hQ
  obtain ⟨cnt, len, SS, h⟩ := hI.1
  refine c_count0 (hQ _ _ ⟨_, rfl⟩ (r_count0 ⟨?_, hI⟩))
  have e1 : M.1 10 0 1 0 = iz (cnt : Int) := h.1.2.1
  rw [e1, h.1.1]
theorem both_end {x : Int32} : Both Γ 0 109 156 [zi x] := by
  intro M Q hI hQ
  obtain ⟨cnt, len, SS, h⟩ := hI.1
  have h1 := h.2.1
  refine c_end h1.1 h1.2.2 (fun hb => hQ _ _ ⟨_, rfl⟩ (r_end h1.2.1 h1.2.2 (fun _ => ⟨rfl, hI⟩) (fun m hm hx => ?_))) (fun m hm hx => hQ _ _ ⟨_, rfl⟩ (r_end ((zw_ne (by omega)).trans h1.2.1) h1.2.2 (fun hb => ?_) (fun m' hm' hx' => ⟨rfl, ?_⟩)))
  · exfalso
    rw [hx, iz_toInt (by omega) (by omega)] at hb
    omega
  · exfalso
    rw [hx, iz_toInt (by omega) (by omega)] at hb
    omega
  · have e : m' = m := by
      rw [hx, iz_eq (by omega) (by omega) (by omega) (by omega)] at hx'
      omega
    subst e
    exact inv_end hI h hm
theorem both_feed {a b c d e : Int32} : Both Γ 0 108 155 [zi a, zi b, zi c, zi d, zi e] := by
  intro M Q hI hQ
  obtain ⟨cnt, len, SS, h⟩ := hI.1
  have h1 := h.2.1
  refine c_feed h1.1 h1.2.2 (fun hb => hQ _ _ ⟨_, rfl⟩ (r_feed h1.2.1 h1.2.2 (fun _ => ⟨rfl, hI⟩) (fun M2 h4 _ _ _ => by omega))) (fun M1 h4 o1 l1 b1 => hQ _ _ ⟨_, rfl⟩ (r_feed ((o1.1 _ _ _ _ (by omega)).trans h1.2.1) h1.2.2 (fun hb => by omega) (fun M2 _ o2 l2 b2 => ⟨rfl, inv_feed hI h h4 o1 l1 b1 o2 l2 b2⟩)))
theorem both_bid {x y w : Int32} : Both Γ 0 114 196 [zi x, zi y, zi w] := by
  intro M Q hI hQ
  obtain ⟨cnt, len, SS, h⟩ := hI.1
  have h3 := h.1.2.2
  refine c_bid h.cW (fun hb => hQ _ _ ⟨_, rfl⟩ (r_bid h.rW (fun M2 o2 _ => ⟨rfl, hI.kp (Kp.ofSl o2)⟩) (fun M2 s i m o2 q1 q2 q3 q4 q5 q6 => absurd ⟨s, i, m, q1, q2, q3, q4, q5, q6⟩ hb))) (fun s i m q1 q2 q3 q4 q5 q6 => hQ _ _ ⟨_, rfl⟩ ?_)
  have h7 := (h.cW.2.2 s q1).2.2.1
  have o1 : Off (fun c _ _ _ => c = 7) M (zw M 7 s 8 i (iz (m : Int))) := (Off.rf M).w _ rfl
  have rW1 : rW (zw M 7 s 8 i (iz (m : Int))) cnt SS := ⟨(o1.1 _ _ _ _ (by omega)).trans h.rW.1, h3, fun t ht => ⟨fun k hk => (o1.1 _ _ _ _ (by omega)).trans ((h.rW.2.2 t ht).1 k hk), (h.rW.2.2 t ht).2⟩⟩
  refine r_bid rW1 (fun M2 o2 hb => absurd ⟨s, i, m, q1, q2, q3, q4, q5, q6⟩ hb) (fun M2 s' i' m' o2 p1 p2 p3 p4 p5 p6 => ⟨rfl, ?_⟩)
  have es : s' = s := by
    rw [q2, iz_eq (by omega) (by omega) (by omega) (by omega)] at p2
    omega
  subst es
  have ei : i' = i := by
    rw [q4, iz_eq (by omega) (by omega) (by omega) (by omega)] at p4
    omega
  have em : m' = m := by
    rw [q6, iz_eq (by omega) (by omega) (by omega) (by omega)] at p6
    omega
  subst ei
  subst em
  have := (inv_set (f := 8) (i := i') (v := (m' : Int)) hI h q1 (Or.inr (Or.inr ⟨rfl, by omega⟩)) (Or.inr (Or.inr (Or.inl (by show 17 ≤ 17 + i' ∧ 17 + i' < 24 ∧ 0 ≤ (m' : Int) ∧ (m' : Int) ≤ 99; omega)))) o2).1
  rw [show 510 + 260 * s' + 17 + i' = 510 + 260 * s' + sPl 8 i' by show _ = 510 + 260 * s' + (17 + i'); omega]
  exact this
theorem both_price {x y w : Int32} : Both Γ 0 128 221 [zi x, zi y, zi w] := by
  intro M Q hI hQ
  obtain ⟨cnt, len, SS, h⟩ := hI.1
  have h3 := h.1.2.2
  refine c_price h.cW (fun hb => hQ _ _ ⟨_, rfl⟩ (r_price h.rW (fun M2 o2 _ => ⟨rfl, hI.kp (Kp.ofSl o2)⟩) (fun M2 s i m o2 q1 q2 q3 q4 q5 q6 => absurd ⟨s, i, m, q1, q2, q3, q4, q5, q6⟩ hb))) (fun s i m q1 q2 q3 q4 q5 q6 => hQ _ _ ⟨_, rfl⟩ ?_)
  have h7 := (h.cW.2.2 s q1).2.1
  have o1 : Off (fun c _ _ _ => c = 7) M (zw M 7 s 6 i (iz (m : Int))) := (Off.rf M).w _ rfl
  have rW1 : rW (zw M 7 s 6 i (iz (m : Int))) cnt SS := ⟨(o1.1 _ _ _ _ (by omega)).trans h.rW.1, h3, fun t ht => ⟨fun k hk => (o1.1 _ _ _ _ (by omega)).trans ((h.rW.2.2 t ht).1 k hk), (h.rW.2.2 t ht).2⟩⟩
  refine r_price rW1 (fun M2 o2 hb => absurd ⟨s, i, m, q1, q2, q3, q4, q5, q6⟩ hb) (fun M2 s' i' m' o2 p1 p2 p3 p4 p5 p6 => ⟨rfl, ?_⟩)
  have es : s' = s := by
    rw [q2, iz_eq (by omega) (by omega) (by omega) (by omega)] at p2
    omega
  subst es
  have ei : i' = i := by
    rw [q4, iz_eq (by omega) (by omega) (by omega) (by omega)] at p4
    omega
  have em : m' = m := by
    rw [q6, iz_eq (by omega) (by omega) (by omega) (by omega)] at p6
    omega
  subst ei
  subst em
  exact (inv_set (f := 6) (i := i') (v := (m' : Int)) hI h q1 (Or.inr (Or.inl ⟨rfl, by omega⟩)) (Or.inr (Or.inr (Or.inr (by show 227 ≤ 227 + i' ∧ 227 + i' < 233 ∧ 0 ≤ (m' : Int) ∧ (m' : Int) ≤ 9999; omega)))) o2).1
theorem both_rule {x y w : Int32} : Both Γ 0 115 197 [zi x, zi y, zi w] := by
  intro M Q hI hQ
  obtain ⟨cnt, len, SS, h⟩ := hI.1
  have h3 := h.1.2.2
  refine c_rule h.cW (fun hb => hQ _ _ ⟨_, rfl⟩ (r_rule h.rW (fun M2 o2 _ => ⟨rfl, hI.kp (Kp.ofSl o2)⟩) (fun M2 s i m o2 q1 q2 q3 q4 q5 q6 => absurd ⟨s, i, m, q1, q2, q3, q4, q5, q6⟩ hb))) (fun s i m q1 q2 q3 q4 q5 q6 => hQ _ _ ⟨_, rfl⟩ ?_)
  have o1 : Off (fun c _ _ _ => c = 7) M (zw (zw M 7 s 0 2 (iz (i : Int))) 7 s 0 3 (iz (m : Int))) := ((Off.rf M).w _ rfl).w _ rfl
  have rW1 : rW (zw (zw M 7 s 0 2 (iz (i : Int))) 7 s 0 3 (iz (m : Int))) cnt SS := ⟨(o1.1 _ _ _ _ (by omega)).trans h.rW.1, h3, fun t ht => ⟨fun k hk => (o1.1 _ _ _ _ (by omega)).trans ((h.rW.2.2 t ht).1 k hk), (h.rW.2.2 t ht).2⟩⟩
  refine r_rule rW1 (fun M2 o2 hb => absurd ⟨s, i, m, q1, q2, q3, q4, q5, q6⟩ hb) (fun M2 s' i' m' o2 p1 p2 p3 p4 p5 p6 => ⟨rfl, ?_⟩)
  have es : s' = s := by
    rw [q2, iz_eq (by omega) (by omega) (by omega) (by omega)] at p2
    omega
  subst es
  have ei : i' = i := by
    rw [q4, iz_eq (by omega) (by omega) (by omega) (by omega)] at p4
    omega
  have em : m' = m := by
    rw [q6, iz_eq (by omega) (by omega) (by omega) (by omega)] at p6
    omega
  subst ei
  subst em
  have A := inv_set (f := 0) (i := 2) (v := (i' : Int)) hI h q1 (Or.inl ⟨rfl, Or.inl rfl⟩) (Or.inl (by show 2 = 2 ∧ 0 ≤ (i' : Int) ∧ (i' : Int) ≤ 2; omega)) (Off.rf _)
  have o3 : Off rSl (zw (zw (zw M 7 s' 0 2 (iz (i' : Int))) 10 0 1 (510 + 260 * s' + 2) (iz (i' : Int))) 7 s' 0 3 (iz (m' : Int))) (zw M2 10 0 1 (510 + 260 * s' + 2) (iz (i' : Int))) := by
    rw [zw_comm (by omega)]
    exact o2.ww
  exact (inv_set (f := 0) (i := 3) (v := (m' : Int)) A.1 A.2 q1 (Or.inl ⟨rfl, Or.inr rfl⟩) (Or.inr (Or.inl (by show 3 = 3 ∧ 0 ≤ (m' : Int) ∧ (m' : Int) ≤ 99; omega))) o3).1
theorem both_image {x : Int32} : Both Γ 0 147 252 [zi x] := by
  intro M Q hI hQ
  obtain ⟨cnt, len, SS, h⟩ := hI.1
  refine c_image h.2.2.2.2.2.1 (fun hb => hQ _ _ ⟨_, rfl⟩ (r_image (fun _ => ⟨rfl, hI⟩) (fun k M2 hk hx => ?_))) (fun k M1 hk hx o1 e1 e2 e3 => hQ _ _ ⟨_, rfl⟩ (r_image (fun hb => ?_) (fun k' M2 hk' hx' o2 e4 => ⟨rfl, ?_⟩)))
  · exfalso
    rw [hx, iz_toInt (by omega) (by omega)] at hb
    omega
  · exfalso
    rw [hx, iz_toInt (by omega) (by omega)] at hb
    omega
  · have e : k' = k := by
      rw [hx, iz_eq (by omega) (by omega) (by omega) (by omega)] at hx'
      omega
    subst e
    exact inv_image hI hk o1 e1 e2 e3 o2 e4
theorem both_again {x : Int32} : Both Γ 0 148 253 [zi x] := by
  intro M Q hI hQ
  obtain ⟨cnt, len, SS, h⟩ := hI.1
  have hk := hI.2.1
  have hk1 : ∀ k, k < 3 → M.1 10 0 2 k = iz 0 ∨ M.1 10 0 2 k = iz 1 := fun k h3 => by
    rcases hk k h3 with q | q
    · exact Or.inl q.2
    · exact Or.inr q.2.1
  have same : ∀ k, k < 3 → (M.1 9 0 3 k = iz 0 ↔ M.1 10 0 2 k = iz 0) := fun k h3 => by
    rcases hk k h3 with q | q
    · exact ⟨fun _ => q.2, fun _ => q.1⟩
    · rw [q.1, q.2.1]
  have same1 : ∀ k, k < 3 → M.1 9 0 3 k = iz 1 → ¬ M.1 10 0 2 k = iz 0 := fun k h3 z y => by
    have := (same k h3).mpr y
    rw [z] at this
    exact absurd this (by decide)
  refine c_again (fun k h3 => ?_) (fun hb => hQ _ _ ⟨_, rfl⟩ (r_again hk1 (fun _ => ⟨rfl, hI⟩) (fun k h3 hx => ?_) (fun k M2 h3 hx => ?_))) (fun k h3 hx hz => hQ _ _ ⟨_, rfl⟩ (r_again hk1 (fun hb => ?_) (fun _ _ _ _ => ⟨rfl, hI⟩) (fun k' M2 h3' hx' he => ?_))) (fun k M1 h3 hx he o1 e1 e2 e3 => hQ _ _ ⟨_, rfl⟩ (r_again (fun k h3 => ?_) (fun hb => ?_) (fun k' h3' hx' hz => ?_) (fun k' M2 h3' hx' he' o2 e4 => ⟨rfl, ?_⟩)))
  · rcases hk k h3 with q | ⟨q1, q2, c, l, S, q3⟩
    · exact Or.inl q.1
    · exact Or.inr ⟨q1, q3.2.2.2.2.2.1⟩
  · exfalso
    rw [hx, iz_toInt (by omega) (by omega)] at hb
    omega
  · exfalso
    rw [hx, iz_toInt (by omega) (by omega)] at hb
    omega
  · exfalso
    rw [hx, iz_toInt (by omega) (by omega)] at hb
    omega
  · have e : k' = k := by
      rw [hx, iz_eq (by omega) (by omega) (by omega) (by omega)] at hx'
      omega
    subst e
    have := (same k' h3).mp hz
    rw [he] at this
    exact absurd this (by decide)
  · rw [o1.1 _ _ _ _ (by unfold oSt; omega)]
    exact hk1 k h3
  · exfalso
    rw [hx, iz_toInt (by omega) (by omega)] at hb
    omega
  · have e : k' = k := by
      rw [hx, iz_eq (by omega) (by omega) (by omega) (by omega)] at hx'
      omega
    subst e
    rw [o1.1 _ _ _ _ (by unfold oSt; omega)] at hz
    exact absurd hz (same1 k' h3 he)
  · have e : k' = k := by
      rw [hx, iz_eq (by omega) (by omega) (by omega) (by omega)] at hx'
      omega
    subst e
    exact inv_again hI h3 he o1 e1 e2 e3 o2 e4
end Za7
