def ratJ (S : SB) (i : Nat) : Option Nat := fnd (fun j => decide (gainL S i < worS S i j - payL S j)) 0 (S 0).toNat
def ratI (S : SB) : Option Nat := fnd (fun i => (ratJ S i).isSome) 0 (S 1).toNat
def gRather (S : SB) (w : Int32) : Int := match ratI S with
  | none => -1
  | some i => if w = 0 then (i : Int) else opI (ratJ S i)
theorem payL_b {S : SB} (hS : SOK S) (j : Nat) : 0 ≤ payL S j ∧ payL S j ≤ 88209 := payB_b hS (rngS hS) (fun _ hx => linS_lt hS hx) hS.2.2.2.1 (fun _ hx => linS_bar hx) j
theorem worS_b {S : SB} (hS : SOK S) {i j : Nat} (hi : i < 7) (hj : j < 6) : 0 ≤ worS S i j ∧ worS S i j ≤ 10800 := wor_b hS (hS.2.2.2.2.2.1 i hi) hi hj
theorem gainL_b {S : SB} (hS : SOK S) {i : Nat} (hi : i < 7) : -88209 ≤ gainL S i ∧ gainL S i ≤ 10800 := by
  have h6 := hS.1
  unfold gainL
  cases hp : plc (linS S) (S 0).toNat i with
  | none => simp [gnS]
  | some j =>
    have hj := plc_lt hp
    have h1 := payL_b hS j
    have h2 := worS_b hS hi (show j < 6 by omega)
    simp only [gnS]
    omega
section Z40
variable {Γ : zC} {Q : zQ} {M : zM} {cnt t ts b : Nat} {S : SB} {SS : Nat → SB} {bd mk : Nat → Int} {l : List Nat} {bar : Int}
theorem c_payAtN (h : Q (some (zi (iz 0))) M) : zEv Γ 29 [zo 2 t 0, zi (iz (-1))] M Q :=
  en_29 (bk_29_0 ⟨fun _ => h, fun q => absurd (by decide) q⟩)
theorem c_gainS (hS : SOK S) (hC : cS M ts S) (hL : cL M t S (S 3) (fun i => S (17 + i)) (fun i => S (24 + i)) (linS S)) {i : Nat} (hi : i < 7) (h : Q (some (zi (iz (gainL S i)))) M) : zEv Γ 34 [zo 2 t 0, zo 7 ts 0, zi (iz (i : Int))] M Q := by
  have h6 := hS.1
  have h7 := hS.2.1
  have hlen := linS_len hS
  exact c_gainOf (nb := (S 0).toNat) hS (by omega) hC hL (by omega) (rngS hS) (fun x hx => linS_lt hS hx) (by omega) hS.2.2.2.1 (fun x hx => linS_bar hx) hi h
theorem c_payS (hS : SOK S) (hL : cL M t S (S 3) (fun i => S (17 + i)) (fun i => S (24 + i)) (linS S)) {j : Nat} (hj : j < 100) (h : Q (some (zi (iz (payL S j)))) M) : zEv Γ 29 [zo 2 t 0, zi (iz (j : Int))] M Q := by
  have h6 := hS.1
  have hlen := linS_len hS
  exact c_payAt (nb := (S 0).toNat) hS (by omega) hL (by omega) (rngS hS) (fun x hx => linS_lt hS hx) hS.2.2.2.1 (fun x hx => linS_bar hx) hj h
theorem r_gainS (hS : SOK S) (hB : rB M b S) (ho : rOr M (linS S)) (hp : rPy M (S 0).toNat (payL S)) (ht : M.1 10 0 0 21 = iz (-1)) {i : Nat} (hi : i < 7) (h : Q (some (zi (iz (gainL S i)))) M) : zEv Γ 192 [zo 10 0 0, zi (iz (i : Int))] M Q := by
  have h6 := hS.1
  have h7 := hS.2.1
  have hlen := linS_len hS
  refine r_gainOf (nb := (S 0).toNat) (tl := -1) (tg := 0) hS (by omega) hB ho (fun x hx => by have := linS_lt hS hx; omega) (by omega) hp ht (by omega) (Or.inr rfl) hi ?_
  have e : (fun i j => wor S (valO S (-1) 0 i) i j) = worS S := by
    funext i j
    unfold valO worS
    rw [if_neg (by omega)]
  rw [e]
  exact h
theorem r_worS (hS : SOK S) (hB : rB M b S) (ht : M.1 10 0 0 21 = iz (-1)) {i j : Nat} (hi : i < 7) (hj : j < 6) (h : Q (some (zi (iz (worS S i j)))) M) : zEv Γ 191 [zo 10 0 0, zi (iz (i : Int)), zi (iz (j : Int))] M Q := by
  refine r_worthOf (tl := -1) (tg := 0) hS hB ht (by omega) (Or.inr rfl) hi hj ?_
  unfold valO
  rw [if_neg (by omega)]
  exact h
theorem c_pay {x y g : Int32} (hW : cW M cnt SS) (hI : ∀ t, t < 4 → lI M t) (h : ∀ M', Kp M M' → Q (some (zi (iz (fS cnt SS x (fun S => gPay S y g) (-100000))))) M') : zEv Γ 117 [zo 9 0 0, zi x, zi y, zi g] M Q := by
  refine en_117 (bk_117_0 (c_saleAt hW (fun q => Or.inl ⟨rfl, ?_⟩) (fun s hs hx => Or.inr ⟨s, rfl, ?_⟩)))
  · have := h M (Kp.rf M)
    rw [fS_out q] at this
    exact this
  · obtain ⟨hC, hS⟩ := hW.2.2 s hs
    have h6 := hS.1
    have h7 := hS.2.1
    have hlen := linS_len hS
    refine c_hasBidder hS hC (fun q => ⟨_, rfl, fun q' => absurd rfl q', fun _ => ?_⟩) (fun i hi hy => ⟨_, rfl, fun _ => ?_, fun q' => absurd q' (by decide)⟩)
    · have h2 := h M (Kp.rf M)
      rw [fS_in hs hW.2.1 hx] at h2
      unfold gPay at h2
      rw [if_neg (by omega)] at h2
      exact h2
    · refine c_line0 hC hS (hI 0 (by omega)) (fun M1 k1 hC1 hL => ⟨rfl, ?_⟩)
      have h2 := h M1 k1
      subst hy
      rw [fS_in hs hW.2.1 hx] at h2
      unfold gPay at h2
      rw [iz_toInt (by omega) (by omega), if_pos (by omega)] at h2
      refine ⟨fun q => ?_, fun q => ?_⟩
      · rw [if_pos q] at h2
        refine c_boardOf (nb := (SS s 0).toNat) hS (by omega) hL (by omega) (fun x hx => by have := linS_lt hS hx; omega) (by omega) ⟨_, rfl, ?_⟩
        rw [show ((i : Int).toNat) = i by omega] at h2
        cases hp : plc (linS (SS s)) (SS s 0).toNat i with
        | none =>
          rw [hp] at h2
          exact c_payAtN ⟨_, rfl, h2⟩
        | some j =>
          have hj := plc_lt hp
          rw [hp] at h2
          simp only [gnS] at h2
          rw [show (0 : Int) - -payL (SS s) j = payL (SS s) j by omega] at h2
          exact c_payS hS hL (by omega) ⟨_, rfl, h2⟩
      · rw [if_neg q] at h2
        exact c_gainS hS hC1 hL (by omega) ⟨_, rfl, h2⟩
theorem r_pay {x y g : Int32} (hW : rW M cnt SS) (ht0 : M.1 10 0 0 21 = iz (-1)) (h : ∀ M', Kp M M' → Q (some (zi (iz (fS cnt SS x (fun S => gPay S y g) (-100000))))) M') : zEv Γ 199 [zo 10 0 0, zi x, zi y, zi g] M Q := by
  refine en_199 (bk_199_0 (r_line hW ht0 (fun q => ⟨_, rfl, fun _ => ?_, fun q' => absurd rfl q'⟩) (fun s M1 hs hx hS ho hB hor hp ht1 => ⟨_, rfl, fun q' => absurd q' (by decide), fun _ => ?_⟩)))
  · have := h M (Kp.rf M)
    rw [fS_out q] at this
    exact this
  · have h6 := hS.1
    have h7 := hS.2.1
    have hlen := linS_len hS
    have h2 := h M1 (Kp.ofR ho)
    rw [fS_in hs hW.2.1 hx] at h2
    unfold gPay at h2
    refine r_isBidder hS hB (fun q => ⟨_, rfl, fun q' => absurd rfl q', fun _ => ?_⟩) (fun i hi hy => ⟨_, rfl, fun _ => ?_, fun q' => absurd q' (by decide)⟩)
    · rw [if_neg (by omega)] at h2
      exact h2
    · subst hy
      rw [iz_toInt (by omega) (by omega), if_pos (by omega), show ((i : Int).toNat) = i by omega] at h2
      refine r_placeOf (nb := (SS s 0).toNat) hS (by omega) hB hor (fun x hx => by have := linS_lt hS hx; omega) (by omega) (by omega) ⟨_, rfl, fun q => ?_, fun q => ?_⟩
      · rw [if_pos q] at h2
        cases hq : plc (linS (SS s)) (SS s 0).toNat i with
        | none =>
          rw [hq] at h2
          exact ⟨fun q => absurd q (by decide), fun _ => h2⟩
        | some j =>
          have hj := plc_lt hq
          rw [hq] at h2
          simp only [opI, gnS] at h2 ⊢
          rw [show (0 : Int) - -payL (SS s) j = payL (SS s) j by omega] at h2
          rw [iz0, iz_le (by omega) (by omega) (by omega) (by omega), iz_clN (by omega), hp j (by omega)]
          exact ⟨fun _ => ⟨iz_inN (by omega) (by omega), h2⟩, fun q => by omega⟩
      · rw [if_neg q] at h2
        exact r_gainS hS hB hor hp ht1 (by omega) ⟨_, rfl, h2⟩
theorem c_ratherThan (hS : SOK S) (hC : cS M ts S) (hL : cL M t S (S 3) (fun i => S (17 + i)) (fun i => S (24 + i)) (linS S)) {i : Nat} (hi : i < 7) (h : Q (some (zi (iz (opI (ratJ S i))))) M) : zEv Γ 36 [zo 2 t 0, zo 7 ts 0, zi (iz (i : Int))] M Q := by
  have h6 := hS.1
  have hg := gainL_b hS hi
  have loop : ∀ (d j : Nat), j + d = (S 0).toNat → fnd (fun j => decide (gainL S i < worS S i j - payL S j)) j d = ratJ S i → zGo Γ 36 Q 10 [some (zo 2 t 0), some (zo 7 ts 0), some (zi (iz (i : Int))), some (zi (iz (gainL S i))), some (zi (iz (j : Int)))] [] M := by
    intro d
    induction d with
    | zero =>
      intro j hj he
      simp only [fnd] at he
      rw [← he] at h
      refine bk_36_10 ⟨fun _ => h, fun q => ?_⟩
      rw [hL.1, iz_le (by omega) (by omega) (by omega) (by omega)] at q
      omega
    | succ d ih =>
      intro j hj he
      have h1 := payL_b hS j
      have h2 := worS_b hS hi (show j < 6 by omega)
      refine bk_36_10 ⟨fun q => ?_, fun _ => c_worthTo hS hC hi (by omega) ⟨_, rfl, c_payS hS hL (by omega) ⟨_, rfl, ?_⟩⟩⟩
      · rw [hL.1, iz_le (by omega) (by omega) (by omega) (by omega)] at q
        omega
      · show ((iz (worS S i j) - iz (payL S j) ≤ iz (gainL S i) → _) ∧ (¬ iz (worS S i j) - iz (payL S j) ≤ iz (gainL S i) → _))
        rw [iz_sub, iz_le (by omega) (by omega) (by omega) (by omega), iz_s]
        refine ⟨fun q => ih (j + 1) (by omega) ?_, fun q => ?_⟩
        · rw [← he]
          conv => rhs; rw [fnd]
          rw [if_neg (by rw [decide_eq_true_iff]; omega)]
        · rw [fnd, if_pos (decide_eq_true (by omega))] at he
          rw [← he] at h
          exact h
  exact en_36 (bk_36_0 (c_gainS hS hC hL hi ⟨_, rfl, loop _ 0 (by omega) rfl⟩))
theorem ratJ_b {S : SB} (hS : SOK S) (i : Nat) : -1 ≤ opI (ratJ S i) ∧ opI (ratJ S i) < 6 := by
  have h6 := hS.1
  cases h : ratJ S i with
  | none => simp [opI]
  | some j =>
    have := fnd_lt _ _ _ h
    simp only [opI]
    omega
theorem c_rather {x w : Int32} (hW : cW M cnt SS) (hI : ∀ t, t < 4 → lI M t) (h : ∀ M', Kp M M' → Q (some (zi (iz (fS cnt SS x (fun S => gRather S w) (-1))))) M') : zEv Γ 119 [zo 9 0 0, zi x, zi w] M Q := by
  refine en_119 (bk_119_0 (c_saleAt hW (fun q => Or.inl ⟨rfl, ?_⟩) (fun s hs hx => Or.inr ⟨s, rfl, ?_⟩)))
  · have := h M (Kp.rf M)
    rw [fS_out q] at this
    exact this
  · obtain ⟨hC, hS⟩ := hW.2.2 s hs
    have h7 := hS.2.1
    refine c_line0 hC hS (hI 0 (by omega)) (fun M1 k1 hC1 hL => ⟨rfl, ?_⟩)
    have h2 := h M1 k1
    rw [fS_in hs hW.2.1 hx] at h2
    unfold gRather at h2
    have loop : ∀ (d i : Nat), i + d = (SS s 1).toNat → fnd (fun i => (ratJ (SS s) i).isSome) i d = ratI (SS s) → zGo Γ 119 Q 23 [some (zo 9 0 0), none, some (zi w), some (zo 7 s 0), some (zi (iz (i : Int))), none] [] M1 := by
      intro d
      induction d with
      | zero =>
        intro i hi he
        simp only [fnd] at he
        rw [← he] at h2
        refine bk_119_23 ⟨fun _ => h2, fun q => ?_⟩
        rw [hC1.1 1 (by omega), iz_le (by omega) (by omega) (by omega) (by omega)] at q
        omega
      | succ d ih =>
        intro i hi he
        have hb := ratJ_b hS i
        refine bk_119_23 ⟨fun q => ?_, fun _ => c_ratherThan hS hC1 hL (by omega) ⟨_, rfl, ?_⟩⟩
        · rw [hC1.1 1 (by omega), iz_le (by omega) (by omega) (by omega) (by omega)] at q
          omega
        · rw [iz_m1, iz_eq (by omega) (by omega) (by omega) (by omega), iz_s]
          rw [fnd] at he
          cases hr : ratJ (SS s) i with
          | none =>
            rw [hr] at he
            exact ⟨fun _ => ih (i + 1) (by omega) (by simpa using he), fun q => absurd rfl q⟩
          | some j =>
            rw [hr, if_pos (show (some j).isSome = true from rfl)] at he
            rw [← he] at h2
            dsimp only at h2
            rw [hr] at h2
            refine ⟨fun q => by simp only [opI] at q; omega, fun _ => ⟨fun q => ?_, fun q => ?_⟩⟩
            · rw [if_pos q] at h2
              exact h2
            · rw [if_neg q] at h2
              exact h2
    exact loop _ 0 (by omega) rfl
theorem r_rather {x w : Int32} (hW : rW M cnt SS) (ht0 : M.1 10 0 0 21 = iz (-1)) (h : ∀ M', Kp M M' → Q (some (zi (iz (fS cnt SS x (fun S => gRather S w) (-1))))) M') : zEv Γ 202 [zo 10 0 0, zi x, zi w] M Q := by
  refine en_202 (bk_202_0 (r_line hW ht0 (fun q => ⟨_, rfl, fun q' => absurd rfl q', fun _ => ?_⟩) (fun s M1 hs hx hS ho hB hor hp ht1 => ⟨_, rfl, fun _ => ?_, fun q' => absurd q' (by decide)⟩)))
  · have := h M (Kp.rf M)
    rw [fS_out q] at this
    exact this
  · have h6 := hS.1
    have h7 := hS.2.1
    have h2 := h M1 (Kp.ofR ho)
    rw [fS_in hs hW.2.1 hx] at h2
    unfold gRather at h2
    have loop : ∀ (d i : Nat), i + d = (SS s 1).toNat → fnd (fun i => (ratJ (SS s) i).isSome) i d = ratI (SS s) → zGo Γ 202 Q 12 [some (zo 10 0 0), none, some (zi w), some (zi (iz (i : Int))), none] [] M1 := by
      intro d
      induction d with
      | zero =>
        intro i hi he
        simp only [fnd] at he
        rw [← he] at h2
        refine bk_202_12 ⟨fun _ => h2, fun q => ?_⟩
        rw [hB.2.2.1, iz_le (by omega) (by omega) (by omega) (by omega)] at q
        omega
      | succ d ih =>
        intro i hi he
        have hg := gainL_b hS (show i < 7 by omega)
        refine bk_202_12 ⟨fun q => ?_, fun _ => ?_⟩
        · rw [hB.2.2.1, iz_le (by omega) (by omega) (by omega) (by omega)] at q
          omega
        · have inner : ∀ (e j : Nat), j + e = (SS s 0).toNat → fnd (fun j => decide (gainL (SS s) i < worS (SS s) i j - payL (SS s) j)) j e = ratJ (SS s) i → zGo Γ 202 Q 23 [some (zo 10 0 0), none, some (zi w), some (zi (iz (i : Int))), some (zi (iz (j : Int)))] [] M1 := by
            intro e
            induction e with
            | zero =>
              intro j hj he2
              simp only [fnd] at he2
              refine bk_202_23 ⟨fun _ => ?_, fun q => ?_⟩
              · rw [iz_s]
                refine ih (i + 1) (by omega) ?_
                rw [fnd, ← he2] at he
                simpa using he
              · rw [hB.2.1, iz_le (by omega) (by omega) (by omega) (by omega)] at q
                omega
            | succ e ihe =>
              intro j hj he2
              have p1 := payL_b hS j
              have p2 := worS_b hS (show i < 7 by omega) (show j < 6 by omega)
              refine bk_202_23 ⟨fun q => ?_, fun _ => r_worS hS hB ht1 (by omega) (by omega) ⟨_, rfl, iz_inN (by omega) (by omega), r_gainS hS hB hor hp ht1 (by omega) ⟨_, rfl, ?_⟩⟩⟩
              · rw [hB.2.1, iz_le (by omega) (by omega) (by omega) (by omega)] at q
                omega
              · rw [iz_clN (by omega), hp j (by omega), iz_sub, iz_le (by omega) (by omega) (by omega) (by omega), iz_s]
                refine ⟨fun q => ihe (j + 1) (by omega) ?_, fun q => ?_⟩
                · rw [← he2]
                  conv => rhs; rw [fnd]
                  rw [if_neg (by rw [decide_eq_true_iff]; omega)]
                · rw [fnd, if_pos (decide_eq_true (by omega))] at he2
                  rw [fnd, ← he2, if_pos (show (some j).isSome = true from rfl)] at he
                  rw [← he] at h2
                  dsimp only at h2
                  rw [← he2] at h2
                  refine ⟨fun q => ?_, fun q => ?_⟩
                  · rw [if_pos q] at h2
                    exact h2
                  · rw [if_neg q] at h2
                    exact h2
          exact inner _ 0 (by omega) rfl
    exact loop _ 0 (by omega) rfl
end Z40
