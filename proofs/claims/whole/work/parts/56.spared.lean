/-! spared, breaks -/
theorem sumTo_add {f : Nat → Int} (a : Nat) : ∀ b, sumTo f (a + b) = sumTo f a + sumTo (fun k => f (a + k)) b
  | 0 => by simp [sumTo]
  | b + 1 => by
    rw [← Nat.add_assoc, sumTo, sumTo_add a b, sumTo]
    omega
theorem sumTo_congr {f g : Nat → Int} : ∀ n, (∀ k, k < n → f k = g k) → sumTo f n = sumTo g n
  | 0, _ => rfl
  | n + 1, h => by rw [sumTo, sumTo, sumTo_congr n (fun k hk => h k (by omega)), h n (by omega)]
theorem sumTo_rot {g : Nat → Int} {a N : Nat} (ha : a < N) : sumTo (fun d => g ((a + d) % N)) N = sumTo g N := by
  have e1 := sumTo_add (f := fun d => g ((a + d) % N)) (N - a) a
  have e2 := sumTo_add (f := g) a (N - a)
  rw [show N - a + a = N by omega] at e1
  rw [show a + (N - a) = N by omega] at e2
  rw [e1, e2]
  have c1 : sumTo (fun d => g ((a + d) % N)) (N - a) = sumTo (fun k => g (a + k)) (N - a) := sumTo_congr _ (fun k hk => by show g ((a + k) % N) = _; rw [Nat.mod_eq_of_lt (by omega)])
  have c2 : sumTo (fun k => (fun d => g ((a + d) % N)) (N - a + k)) a = sumTo g a := sumTo_congr _ (fun k hk => by
    show g ((a + (N - a + k)) % N) = g k
    rw [show a + (N - a + k) = N + k by omega, Nat.add_mod_left, Nat.mod_eq_of_lt (by omega)])
  rw [c1, c2]
  omega
def stN (S : SB) : Nat := min (linS S).length (S 0).toNat
def spT (S : SB) (i p : Nat) : Int := worS S i p - max (S 3) 1 * pas S p
def spS (S : SB) (i : Nat) : Int := sumTo (spT S i) (stN S) - (stN S : Int) * gainL S i
def gSpared (S : SB) (y : Int32) : Int := if 0 ≤ y.toInt ∧ y.toInt < S 1 then (match plc (linS S) (S 0).toNat y.toInt.toNat with
  | some _ => spS S y.toInt.toNat
  | none => -1000000) else -1000000
def brk (S : SB) (i : Nat) : Bool := (plc (linS S) (S 0).toNat i).isSome && decide (spS S i < 0)
def gBreaks (S : SB) : Int := opI (fnd (brk S) 0 (S 1).toNat)
theorem spT_b {S : SB} (hS : SOK S) {i p : Nat} (hi : i < 7) (hp : p < 6) : -10000 ≤ spT S i p ∧ spT S i p ≤ 10800 := by
  unfold spT
  have h1 := worS_b hS hi hp
  have h2 := pas_b hS p
  have h3 := hS.2.2.2.1
  have h4 : max (S 3) 1 * pas S p ≤ 99 * 99 := Int.mul_le_mul (by omega) h2.2 h2.1 (by omega)
  have h5 : 0 ≤ max (S 3) 1 * pas S p := Int.mul_nonneg (by omega) h2.1
  omega
theorem stN_le {S : SB} (hS : SOK S) : stN S ≤ 6 := by
  have := hS.1
  unfold stN
  omega
theorem spS_b {S : SB} (hS : SOK S) {i : Nat} (hi : i < 7) : -2000000 ≤ spS S i ∧ spS S i ≤ 2000000 := by
  unfold spS
  have hN := stN_le hS
  have hg := gainL_b hS hi
  have hs : ∀ m : Nat, m ≤ 6 → -10000 * (m : Int) ≤ sumTo (spT S i) m ∧ sumTo (spT S i) m ≤ 10800 * m := by
    intro m
    induction m with
    | zero => intro _; simp [sumTo]
    | succ m ih =>
      intro hm
      have := ih (by omega)
      have := spT_b hS hi (show m < 6 by omega)
      rw [sumTo]
      omega
  have := hs (stN S) hN
  have g1 : (stN S : Int) * gainL S i ≤ 6 * 10800 := by
    by_cases z : 0 ≤ gainL S i
    · exact Int.mul_le_mul (by omega) hg.2 z (by omega)
    · have : (stN S : Int) * gainL S i ≤ 0 := Int.mul_nonpos_of_nonneg_of_nonpos (by omega) (by omega)
      omega
  have g2 : (stN S : Int) * (-gainL S i) ≤ 6 * 88209 := by
    by_cases z : 0 ≤ -gainL S i
    · exact Int.mul_le_mul (by omega) (by omega) z (by omega)
    · have : (stN S : Int) * (-gainL S i) ≤ 0 := Int.mul_nonpos_of_nonneg_of_nonpos (by omega) (by omega)
      omega
  rw [Int.mul_neg] at g2
  omega
section Z56
variable {Γ : zC} {Q : zQ} {M : zM} {b cnt t ts n : Nat} {S : SB} {SS : Nat → SB}
theorem c_spared1 (hS : SOK S) (hC : cS M ts S) (hL : cL M t S (S 3) (fun i => S (17 + i)) (fun i => S (24 + i)) (linS S)) {i : Nat} (hi : i < 7) (h : Q (some (zi (iz (spS S i)))) M) : zEv Γ 37 [zo 2 t 0, zo 7 ts 0, zi (iz (i : Int))] M Q := by
  have h6 := hS.1
  have hlen := linS_len hS
  have hN := stN_le hS
  refine en_37 (bk_37_0 (c_count (nb := (S 0).toNat) hS (by omega) hL (by omega) ⟨_, rfl, c_gainS hS hC hL hi ⟨_, rfl, ?_⟩⟩))
  show zGo Γ 37 Q 19 [some (zo 2 t 0), some (zo 7 ts 0), some (zi (iz (i : Int))), some (zi (iz ((stN S : Nat) : Int))), some (zi (-iz ((stN S : Nat) : Int) * iz (gainL S i))), some (zi 0)] [] M
  rw [iz_neg, iz_mul, show -((stN S : Nat) : Int) * gainL S i = -((stN S : Nat) : Int) * gainL S i + sumTo (spT S i) 0 by simp [sumTo]]
  refine nloop (G := fun p => zGo Γ 37 Q 19 [some (zo 2 t 0), some (zo 7 ts 0), some (zi (iz (i : Int))), some (zi (iz ((stN S : Nat) : Int))), some (zi (iz (-((stN S : Nat) : Int) * gainL S i + sumTo (spT S i) p))), some (zi (iz (p : Int)))] [] M) (n := stN S) ?_ (fun p hp ih => ?_) (stN S) 0 (by omega)
  · refine bk_37_19 ⟨fun _ => ?_, fun q => ?_⟩
    · rw [show -((stN S : Nat) : Int) * gainL S i + sumTo (spT S i) (stN S) = spS S i by unfold spS; rw [Int.neg_mul]; omega]
      exact h
    · rw [iz_le (by omega) (by omega) (by omega) (by omega)] at q
      omega
  · refine bk_37_19 ⟨fun q => ?_, fun _ => c_worthTo hS hC hi (show p < 6 by omega) ⟨_, rfl, iz_inN (by omega) (by omega), ?_⟩⟩
    · rw [iz_le (by omega) (by omega) (by omega) (by omega)] at q
      omega
    rw [iz_clN (by omega), hL.2.2.2.2.1 p (by omega), hL.2.2.1]
    have h3 := hS.2.2.2.1
    rw [show (if iz (S 3) < 1 then (1 : Int32) else iz (S 3)) = iz (max (S 3) 1) from iz_max (a := S 3) (b := 1) (by omega) (by omega) (by omega) (by omega), iz_mul, iz_sub, iz_add, iz_s, Int.add_assoc]
    rw [sumTo] at ih
    exact ih
theorem r_spared1 (hS : SOK S) (hB : rB M b S) (ho : rOr M (linS S)) (hp : rPy M (S 0).toNat (payL S)) (ht : M.1 10 0 0 21 = iz (-1)) {i a : Nat} (hi : i < 7) (ha : plc (linS S) (S 0).toNat i = some a) (h : Q (some (zi (iz (spS S i)))) M) : zEv Γ 236 [zo 10 0 0, zi (iz (i : Int))] M Q := by
  have h6 := hS.1
  have h7 := hS.2.1
  have hlen := linS_len hS
  have hN := stN_le hS
  have h3 := hS.2.2.2.1
  have hal := plc_lt ha
  have haN : a < stN S := by unfold stN; omega
  have main : zGo Γ 236 Q 46 [some (zo 10 0 0), some (zi (iz (i : Int))), some (zi (iz ((stN S : Nat) : Int))), some (zi (iz (a : Int))), some (zi (iz (max (S 3) 1))), some (zi 0), some (zi 0), none] [] M := by
    refine nloop (G := fun d => zGo Γ 236 Q 46 [some (zo 10 0 0), some (zi (iz (i : Int))), some (zi (iz ((stN S : Nat) : Int))), some (zi (iz (a : Int))), some (zi (iz (max (S 3) 1))), some (zi (iz (sumTo (fun d => spT S i ((a + d) % stN S)) d))), some (zi (iz (d : Int))), none] [] M) (n := stN S) ?_ (fun d hd ih => ?_) (stN S) 0 (by omega)
    · refine bk_236_46 ⟨fun _ => r_gainS hS hB ho hp ht hi ⟨_, rfl, ?_⟩, fun q => ?_⟩
      · rw [sumTo_rot haN, iz_mul, iz_sub]
        exact h
      · rw [iz_le (by omega) (by omega) (by omega) (by omega)] at q
        omega
    · have hmod := iz_mod (a := a + d) (B := stN S) (by omega) (by omega) (by omega)
      have hml := Nat.mod_lt (a + d) (show stN S > 0 by omega)
      refine bk_236_46 ⟨fun q => ?_, fun _ => ⟨?_, ?_⟩⟩
      · rw [iz_le (by omega) (by omega) (by omega) (by omega)] at q
        omega
      · rw [iz0, iz_eq (by omega) (by omega) (by omega) (by omega)]
        omega
      rw [show iz (a : Int) + iz (d : Int) = iz ((a + d : Nat) : Int) by rw [iz_add]; rfl, hmod.1, hmod.2]
      refine r_worS hS hB ht hi (by omega) ⟨_, rfl, r_passOf hS hB (by omega) ⟨_, rfl, ?_⟩⟩
      rw [iz_mul, iz_sub, iz_add, iz_s]
      rw [sumTo] at ih
      exact ih
  refine en_236 (bk_236_0 ?_)
  have e1 : M.1 10 0 0 13 = iz (S 0) := hB.2.1
  have e2 : M.1 10 0 0 18 = iz ((linS S).length : Int) := ho.1
  rw [e1, e2, iz_le (by omega) (by omega) (by omega) (by omega)]
  have pl : ∀ (Q' : zQ), Q' (some (zi (iz (a : Int)))) M → zEv Γ 189 [zo 10 0 0, zi (iz (i : Int))] M Q' := fun Q' hq => r_placeOf (nb := (S 0).toNat) hS (by omega) hB ho (fun x hx => by have := linS_lt hS hx; omega) (by omega) (by omega) (by rw [ha]; exact hq)
  refine ⟨fun q => pl _ ⟨_, rfl, r_of hB 3 (by omega) rfl ⟨_, rfl, r_greater (x := S 3) (y := 1) (by omega) (by omega) ⟨_, rfl, ?_⟩⟩⟩, fun q => pl _ ⟨_, rfl, r_of hB 3 (by omega) rfl ⟨_, rfl, r_greater (x := S 3) (y := 1) (by omega) (by omega) ⟨_, rfl, ?_⟩⟩⟩⟩
  · rw [show S 0 = ((stN S : Nat) : Int) by unfold stN; omega]
    exact main
  · rw [show ((linS S).length : Int) = ((stN S : Nat) : Int) by unfold stN; omega]
    exact main
theorem c_board1 (hS : SOK S) (hL : cL M t S (S 3) (fun i => S (17 + i)) (fun i => S (24 + i)) (linS S)) {i : Nat} (hi : i < 7) (h : Q (some (zi (iz (opI (plc (linS S) (S 0).toNat i))))) M) : zEv Γ 28 [zo 2 t 0, zi (iz (i : Int))] M Q := by
  have h6 := hS.1
  have h7 := hS.2.1
  have hlen := linS_len hS
  exact c_boardOf (nb := (S 0).toNat) hS (by omega) hL (by omega) (fun x hx => by have := linS_lt hS hx; omega) (by omega) h
theorem r_place1 (hS : SOK S) (hB : rB M b S) (ho : rOr M (linS S)) {i : Nat} (hi : i < 7) (h : Q (some (zi (iz (opI (plc (linS S) (S 0).toNat i))))) M) : zEv Γ 189 [zo 10 0 0, zi (iz (i : Int))] M Q := by
  have h6 := hS.1
  have h7 := hS.2.1
  have hlen := linS_len hS
  exact r_placeOf (nb := (S 0).toNat) hS (by omega) hB ho (fun x hx => by have := linS_lt hS hx; omega) (by omega) (by omega) h
theorem c_spared {x y : Int32} (hW : cW M cnt SS) (hI : ∀ t, t < 4 → lI M t) (h : ∀ M', Kp M M' → Q (some (zi (iz (fS cnt SS x (fun S => gSpared S y) (-1000000))))) M') : zEv Γ 137 [zo 9 0 0, zi x, zi y] M Q := by
  refine en_137 (bk_137_0 (c_saleAt hW (fun q => Or.inl ⟨rfl, ?_⟩) (fun s hs hx => Or.inr ⟨s, rfl, ?_⟩)))
  · have := h M (Kp.rf M)
    rw [fS_out q] at this
    exact this
  · obtain ⟨hC, hS⟩ := hW.2.2 s hs
    have h7 := hS.2.1
    have h6 := hS.1
    rw [fS_in hs hW.2.1 hx] at h
    unfold gSpared at h
    refine c_hasBidder hS hC (fun q => ⟨_, rfl, fun q' => absurd rfl q', fun _ => ?_⟩) (fun i hi hy => ⟨_, rfl, fun _ => ?_, fun q' => absurd q' (by decide)⟩)
    · have h2 := h M (Kp.rf M)
      rw [if_neg (by omega)] at h2
      exact h2
    · subst hy
      rw [iz_toInt (by omega) (by omega), if_pos (by omega), show ((i : Int).toNat) = i by omega] at h
      refine c_line0 hC hS (hI 0 (by omega)) (fun M1 k1 C1 L1 => ⟨rfl, c_board1 hS L1 (by omega) ⟨_, rfl, ?_⟩⟩)
      have h := h M1 k1
      cases hp : plc (linS (SS s)) (SS s 0).toNat i with
      | none =>
        rw [hp] at h
        exact ⟨fun q => absurd rfl q, fun _ => h⟩
      | some a =>
        rw [hp] at h
        refine ⟨fun _ => c_spared1 hS C1 L1 (by omega) ⟨_, rfl, h⟩, fun q => ?_⟩
        have := plc_lt hp
        have q : iz (a : Int) = iz (-1) := q
        rw [iz_eq (by omega) (by omega) (by omega) (by omega)] at q
        omega
theorem r_spared {x y : Int32} (hW : rW M cnt SS) (ht0 : M.1 10 0 0 21 = iz (-1)) (h : ∀ M', Kp M M' → Q (some (zi (iz (fS cnt SS x (fun S => gSpared S y) (-1000000))))) M') : zEv Γ 237 [zo 10 0 0, zi x, zi y] M Q := by
  refine en_237 (bk_237_0 (r_line hW ht0 (fun q => ⟨_, rfl, fun _ => ?_, fun q' => absurd rfl q'⟩) (fun s M1 hs hx hS o1 hB hor hpy ht1 => ⟨_, rfl, fun q' => absurd q' (by decide), fun _ => ?_⟩)))
  · have := h M (Kp.rf M)
    rw [fS_out q] at this
    exact this
  · have h7 := hS.2.1
    have h6 := hS.1
    rw [fS_in hs hW.2.1 hx] at h
    unfold gSpared at h
    have h := h M1 (Kp.ofR o1)
    refine r_isBidder hS hB (fun q => ⟨_, rfl, fun _ => ?_, fun q' => absurd rfl q'⟩) (fun i hi hy => ⟨_, rfl, fun q' => absurd q' (by decide), fun _ => ?_⟩)
    · rw [if_neg (by omega)] at h
      exact h
    · subst hy
      rw [iz_toInt (by omega) (by omega), if_pos (by omega), show ((i : Int).toNat) = i by omega] at h
      refine r_place1 hS hB hor (by omega) ⟨_, rfl, ?_⟩
      cases hp : plc (linS (SS s)) (SS s 0).toNat i with
      | none =>
        rw [hp] at h
        exact ⟨fun _ => h, fun q => absurd (by decide) q⟩
      | some a =>
        rw [hp] at h
        have := plc_lt hp
        refine ⟨fun q => ?_, fun _ => r_spared1 hS hB hor hpy ht1 (by omega) hp ⟨_, rfl, h⟩⟩
        have q : iz (a : Int) < iz 0 := q
        rw [iz_lt (by omega) (by omega) (by omega) (by omega)] at q
        omega
theorem c_breaks {x : Int32} (hW : cW M cnt SS) (hI : ∀ t, t < 4 → lI M t) (h : ∀ M', Kp M M' → Q (some (zi (iz (fS cnt SS x gBreaks (-1))))) M') : zEv Γ 138 [zo 9 0 0, zi x] M Q := by
  refine en_138 (bk_138_0 (c_saleAt hW (fun q => Or.inl ⟨rfl, ?_⟩) (fun s hs hx => Or.inr ⟨s, rfl, ?_⟩)))
  · have := h M (Kp.rf M)
    rw [fS_out q] at this
    exact this
  · obtain ⟨hC, hS⟩ := hW.2.2 s hs
    have h7 := hS.2.1
    have h6 := hS.1
    rw [fS_in hs hW.2.1 hx] at h
    unfold gBreaks at h
    refine c_line0 hC hS (hI 0 (by omega)) (fun M1 k1 C1 L1 => ⟨rfl, ?_⟩)
    have h := h M1 k1
    refine nloop (G := fun i => fnd (brk (SS s)) 0 (SS s 1).toNat = fnd (brk (SS s)) i ((SS s 1).toNat - i) → zGo Γ 138 Q 22 [some (zo 9 0 0), none, some (zo 7 s 0), some (zi (iz (i : Int)))] [] M1) (n := (SS s 1).toNat) (fun e => ?_) (fun i hi ih e => ?_) (SS s 1).toNat 0 (by omega) rfl
    · rw [show (SS s 1).toNat - (SS s 1).toNat = 0 by omega] at e
      rw [e] at h
      refine bk_138_22 ⟨fun _ => h, fun q => ?_⟩
      rw [C1.1 1 (by omega), iz_le (by omega) (by omega) (by omega) (by omega)] at q
      omega
    · rw [show (SS s 1).toNat - i = ((SS s 1).toNat - (i + 1)) + 1 by omega, fnd_s i] at e
      refine bk_138_22 ⟨fun q => ?_, fun _ => c_board1 hS L1 (by omega) ⟨_, rfl, ?_⟩⟩
      · rw [C1.1 1 (by omega), iz_le (by omega) (by omega) (by omega) (by omega)] at q
        omega
      rw [iz_s]
      cases hp : plc (linS (SS s)) (SS s 0).toNat i with
      | none =>
        refine ⟨fun _ => ih ?_, fun q => absurd rfl q⟩
        rw [if_neg (by unfold brk; rw [hp]; simp)] at e
        exact e
      | some a =>
        have := plc_lt hp
        have sb := spS_b hS (i := i) (by omega)
        refine ⟨fun q => ?_, fun _ => c_spared1 hS C1 L1 (by omega) ⟨_, rfl, ?_⟩⟩
        · have q : iz (a : Int) = iz (-1) := q
          rw [iz_eq (by omega) (by omega) (by omega) (by omega)] at q
          omega
        rw [iz0, iz_le (by omega) (by omega) (by omega) (by omega)]
        refine ⟨fun q => ih ?_, fun q => ?_⟩
        · rw [if_neg (by unfold brk; rw [hp]; simp; omega)] at e
          exact e
        · rw [if_pos (by unfold brk; rw [hp]; simp; omega)] at e
          rw [e] at h
          exact h
theorem r_breaks {x : Int32} (hW : rW M cnt SS) (ht0 : M.1 10 0 0 21 = iz (-1)) (h : ∀ M', Kp M M' → Q (some (zi (iz (fS cnt SS x gBreaks (-1))))) M') : zEv Γ 238 [zo 10 0 0, zi x] M Q := by
  refine en_238 (bk_238_0 (r_line hW ht0 (fun q => ⟨_, rfl, fun q' => absurd rfl q', fun _ => ?_⟩) (fun s M1 hs hx hS o1 hB hor hpy ht1 => ⟨_, rfl, fun _ => ?_, fun q' => absurd q' (by decide)⟩)))
  · have := h M (Kp.rf M)
    rw [fS_out q] at this
    exact this
  · have h7 := hS.2.1
    have h6 := hS.1
    rw [fS_in hs hW.2.1 hx] at h
    unfold gBreaks at h
    have h := h M1 (Kp.ofR o1)
    refine nloop (G := fun i => fnd (brk (SS s)) 0 (SS s 1).toNat = fnd (brk (SS s)) i ((SS s 1).toNat - i) → zGo Γ 238 Q 12 [some (zo 10 0 0), none, some (zi (iz (i : Int)))] [] M1) (n := (SS s 1).toNat) (fun e => ?_) (fun i hi ih e => ?_) (SS s 1).toNat 0 (by omega) rfl
    · rw [show (SS s 1).toNat - (SS s 1).toNat = 0 by omega] at e
      rw [e] at h
      refine bk_238_12 ⟨fun _ => h, fun q => ?_⟩
      rw [hB.2.2.1, iz_le (by omega) (by omega) (by omega) (by omega)] at q
      omega
    · rw [show (SS s 1).toNat - i = ((SS s 1).toNat - (i + 1)) + 1 by omega, fnd_s i] at e
      refine bk_238_12 ⟨fun q => ?_, fun _ => r_place1 hS hB hor (by omega) ⟨_, rfl, ?_⟩⟩
      · rw [hB.2.2.1, iz_le (by omega) (by omega) (by omega) (by omega)] at q
        omega
      rw [iz_s]
      cases hp : plc (linS (SS s)) (SS s 0).toNat i with
      | none =>
        refine ⟨fun _ => ih ?_, fun q => absurd (by decide) q⟩
        rw [if_neg (by unfold brk; rw [hp]; simp)] at e
        exact e
      | some a =>
        have := plc_lt hp
        have sb := spS_b hS (i := i) (by omega)
        refine ⟨fun q => ?_, fun _ => r_spared1 hS hB hor hpy ht1 (by omega) hp ⟨_, rfl, ?_⟩⟩
        · have q : iz (a : Int) < iz 0 := q
          rw [iz_lt (by omega) (by omega) (by omega) (by omega)] at q
          omega
        rw [iz0, iz_le (by omega) (by omega) (by omega) (by omega)]
        refine ⟨fun q => ih ?_, fun q => ?_⟩
        · rw [if_neg (by unfold brk; rw [hp]; simp; omega)] at e
          exact e
        · rw [if_pos (by unfold brk; rw [hp]; simp; omega)] at e
          rw [e] at h
          exact h
end Z56
