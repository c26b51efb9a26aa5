/-! what stays between calls -/
def Pst (c t f i : Nat) : Prop := c = 8 ∨ c = 9 ∨ (c = 7 ∧ t < 12) ∨ (c = 10 ∧ t = 0 ∧ (f = 1 ∨ f = 2 ∨ (f = 0 ∧ i = 21)))
def Kp (M M' : zM) : Prop := (∀ c t f i, Pst c t f i → M'.1 c t f i = M.1 c t f i) ∧ ((∀ t, t < 4 → lI M t) → ∀ t, t < 4 → lI M' t)
theorem Kp.rf (M : zM) : Kp M M := ⟨fun _ _ _ _ _ => rfl, id⟩
theorem Kp.tr {M M1 M2 : zM} (h1 : Kp M M1) (h2 : Kp M1 M2) : Kp M M2 := ⟨fun c t f i h => (h2.1 c t f i h).trans (h1.1 c t f i h), fun h => h2.2 (h1.2 h)⟩
theorem Kp.ofR {M M' : zM} (h : Off rSc M M') : Kp M M' := by
  refine ⟨fun c t f i hp => h.1 c t f i ?_, fun hl t ht => ⟨(h.1 _ _ _ _ (by rintro ⟨q, -⟩; omega)).trans (hl t ht).1, fun k h1 h2 => (h.1 _ _ _ _ (by rintro ⟨q, -⟩; omega)).trans ((hl t ht).2 k h1 h2)⟩⟩
  rintro ⟨q1, q2, q3, q4, q5⟩
  unfold Pst at hp
  omega
theorem cL.inv {M : zM} {t : Nat} {S : SB} {bar : Int} {bd mk : Nat → Int} {l : List Nat} (hS : SOK S) (h : cL M t S bar bd mk l) (hlen : l.length ≤ 8) : lI M t := by
  have h6 := hS.1
  refine ⟨?_, fun k h1 h2 => ?_⟩
  · rw [h.2.2.2.2.1 6 (by omega)]
    unfold pas
    rw [if_neg (by omega)]
  · rw [h.2.2.2.2.2.2 k h2]
    unfold sco
    rw [if_neg (by omega)]
theorem Kp.ofL {M M' : zM} {t : Nat} (h : Off (cLn t) M M') (hi : lI M' t) : Kp M M' := by
  refine ⟨fun c t' f i hp => h.1 c t' f i ?_, fun hl t' ht => ?_⟩
  · rintro ⟨q1, q2⟩
    unfold Pst at hp
    omega
  · by_cases e : t' = t
    · rw [e]; exact hi
    · exact ⟨(h.1 _ _ _ _ (by rintro ⟨-, q⟩; exact e q)).trans (hl t' ht).1, fun k h1 h2 => (h.1 _ _ _ _ (by rintro ⟨-, q⟩; exact e q)).trans ((hl t' ht).2 k h1 h2)⟩
theorem cW.kp {M M' : zM} {cnt : Nat} {SS : Nat → SB} (h : cW M cnt SS) (k : Kp M M') : cW M' cnt SS := by
  have h3 := h.2.1
  refine ⟨(k.1 _ _ _ _ (Or.inl rfl)).trans h.1, h.2.1, fun s hs => ⟨?_, (h.2.2 s hs).2⟩⟩
  have e : ∀ f i, M'.1 7 s f i = M.1 7 s f i := fun f i => k.1 _ _ _ _ (Or.inr (Or.inr (Or.inl ⟨rfl, by omega⟩)))
  have hc := (h.2.2 s hs).1
  unfold cS at hc ⊢
  simp only [e]
  exact hc
theorem rW.kp {M M' : zM} {cnt : Nat} {SS : Nat → SB} (h : rW M cnt SS) (k : Kp M M') : rW M' cnt SS :=
  ⟨(k.1 _ _ _ _ (Or.inr (Or.inr (Or.inr ⟨rfl, rfl, Or.inl rfl⟩)))).trans h.1, h.2.1, fun s hs => ⟨fun i hi => (k.1 _ _ _ _ (Or.inr (Or.inr (Or.inr ⟨rfl, rfl, Or.inl rfl⟩)))).trans ((h.2.2 s hs).1 i hi), (h.2.2 s hs).2⟩⟩
/-- an answer by the sale that is asked of -/
def fS (cnt : Nat) (SS : Nat → SB) (x : Int32) (G : SB → Int) (d : Int) : Int := if 0 ≤ x.toInt ∧ x.toInt < cnt then G (SS x.toInt.toNat) else d
theorem fS_in {cnt : Nat} {SS : Nat → SB} {x : Int32} {G : SB → Int} {d : Int} {s : Nat} (hs : s < cnt) (hc : cnt ≤ 3) (hx : x = iz (s : Int)) : fS cnt SS x G d = G (SS s) := by
  unfold fS
  rw [hx, iz_toInt (by omega) (by omega), if_pos (by omega)]
  rfl
theorem fS_out {cnt : Nat} {SS : Nat → SB} {x : Int32} {G : SB → Int} {d : Int} (h : x.toInt < 0 ∨ (cnt : Int) ≤ x.toInt) : fS cnt SS x G d = d := by
  unfold fS
  rw [if_neg (by omega)]
def linS (S : SB) : List Nat := lin (fun i => S (17 + i)) (fun i => S (24 + i)) (fun _ => false) (S 3) (S 1).toNat
def payL (S : SB) : Nat → Int := payB S (fun i => S (17 + i)) (fun i => S (24 + i)) (S 3) (linS S) (S 0).toNat
def worS (S : SB) (i j : Nat) : Int := wor S (S (10 + i)) i j
def gainL (S : SB) (i : Nat) : Int := gnS (worS S) (payL S) (plc (linS S) (S 0).toNat i) i
theorem linS_len {S : SB} (hS : SOK S) : (linS S).length ≤ 7 := by
  have := lin_len (bd := fun i => S (17 + i)) (mk := fun i => S (24 + i)) (ex := fun _ => false) (bar := S 3) (S 1).toNat
  have := hS.2.1
  unfold linS
  omega
theorem linS_lt {S : SB} (hS : SOK S) {x : Nat} (h : x ∈ linS S) : x < (S 1).toNat := lin_lt _ x h
theorem linS_bar {S : SB} {x : Nat} (h : x ∈ linS S) : S 3 ≤ S (17 + x) := by
  have := ((lin_mem _).mp h).2
  omega
theorem rngS {S : SB} (hS : SOK S) : rng (S 1).toNat (fun i => S (17 + i)) (fun i => S (24 + i)) := fun i hi => by
  have := hS.2.1
  exact ⟨hS.2.2.2.2.2.2.1 i (by omega), hS.2.2.2.2.2.2.2.1 i (by omega)⟩
def gStands (S : SB) (j : Int32) : Int := if 0 ≤ j.toInt ∧ j.toInt < (min (linS S).length (S 0).toNat : Nat) then (((linS S).getD j.toInt.toNat 0 : Nat) : Int) else -1
def gPay (S : SB) (i g : Int32) : Int := if 0 ≤ i.toInt ∧ i.toInt < S 1 then (if g = 0 then gnS (fun _ _ => 0) (fun j => -payL S j) (plc (linS S) (S 0).toNat i.toInt.toNat) 0 else gainL S i.toInt.toNat) else -100000
def gTake (S : SB) : Int := sumTo (payL S) (S 0).toNat
def gWorth (S : SB) (i j : Int32) : Int := if 0 ≤ i.toInt ∧ i.toInt < S 1 ∧ 0 ≤ j.toInt ∧ j.toInt < S 0 then worS S i.toInt.toNat j.toInt.toNat else -1
section Z39
variable {Γ : zC} {Q : zQ} {M : zM} {cnt : Nat} {SS : Nat → SB}
theorem c_line0 {s : Nat} (hC : cS M s (SS s)) (hS : SOK (SS s)) (hI : lI M 0) {Q : zQ} (h : ∀ M', Kp M M' → cS M' s (SS s) → cL M' 0 (SS s) (SS s 3) (fun i => SS s (17 + i)) (fun i => SS s (24 + i)) (linS (SS s)) → Q none M') : zEv Γ 18 [zo 2 0 0, zo 7 s 0] M Q := by
  have h7 := hS.2.1
  refine c_lineUp (n := (SS s 1).toNat) hS (by omega) hC hI (fun M' ho hL => h M' (Kp.ofL ho (cL.inv hS hL ?_)) (hC.off ho (by rintro f i ⟨q, -⟩; omega)) hL)
  have := linS_len hS
  unfold linS at this
  omega
theorem r_line {x : Int32} (hW : rW M cnt SS) (ht0 : M.1 10 0 0 21 = iz (-1)) {Q : zQ} (hf : (x.toInt < 0 ∨ (cnt : Int) ≤ x.toInt) → Q (some (zi 0)) M) (ht : ∀ (s : Nat) (M' : zM), s < cnt → x = iz (s : Int) → SOK (SS s) → Off rSc M M' → rB M' (510 + 260 * s) (SS s) → rOr M' (linS (SS s)) → rPy M' (SS s 0).toNat (payL (SS s)) → M'.1 10 0 0 21 = iz (-1) → Q (some (zi 1)) M') : zEv Γ 193 [zo 10 0 0, zi x] M Q := by
  refine r_laid hW hf (fun s n nb M' hs hx hn hnb ho hB hb hor hp => ?_)
  have hS := (hW.2.2 s hs).2
  have en : n = (SS s 1).toNat := by omega
  have eb : nb = (SS s 0).toNat := by omega
  subst en; subst eb
  refine ht s M' hs hx hS ho hB hor (fun j hj => ?_) ((ho.1 _ _ _ _ (by rintro ⟨-, -, -, -, q⟩; exact q rfl rfl)).trans ht0)
  rw [hp j hj]
  unfold payL payB linS
  congr 1
  by_cases c : j < (lin (fun i => SS s (17 + i)) (fun i => SS s (24 + i)) (fun _ => false) (SS s 3) (SS s 1).toNat).length
  · rw [if_pos c, if_pos (by omega)]
  · rw [if_neg c, if_neg (by omega)]
theorem c_stands {x y : Int32} (hW : cW M cnt SS) (hI : ∀ t, t < 4 → lI M t) (h : ∀ M', Kp M M' → Q (some (zi (iz (fS cnt SS x (fun S => gStands S y) (-1))))) M') : zEv Γ 116 [zo 9 0 0, zi x, zi y] M Q := by
  refine en_116 (bk_116_0 (c_saleAt hW (fun q => Or.inl ⟨rfl, ?_⟩) (fun s hs hx => Or.inr ⟨s, rfl, ?_⟩)))
  · have := h M (Kp.rf M)
    rw [fS_out q] at this
    exact this
  · obtain ⟨hC, hS⟩ := hW.2.2 s hs
    have h6 := hS.1
    have hlen := linS_len hS
    refine c_line0 hC hS (hI 0 (by omega)) (fun M1 k1 hC1 hL => ⟨rfl, ?_⟩)
    have h2 := h M1 k1
    rw [fS_in hs hW.2.1 hx] at h2
    obtain ⟨a, ha1, ha2, rfl⟩ := iz_ex y
    unfold gStands at h2
    rw [iz_toInt ha1 ha2] at h2
    refine en_27 (bk_27_0 ⟨fun q => ⟨_, rfl, ?_⟩, fun q => c_count (nb := (SS s 0).toNat) hS (by omega) hL (by omega) ⟨_, rfl, ?_⟩⟩)
    · rw [iz0, iz_lt (by omega) (by omega) (by omega) (by omega)] at q
      rw [if_neg (by omega)] at h2
      exact h2
    · rw [iz0, iz_lt (by omega) (by omega) (by omega) (by omega)] at q
      rw [iz_le (by omega) (by omega) (by omega) (by omega)]
      refine ⟨fun q2 => ⟨_, rfl, ?_⟩, fun q2 => ?_⟩
      · rw [if_neg (by omega)] at h2
        exact h2
      · rw [if_pos (by omega)] at h2
        obtain ⟨j, rfl⟩ := Int.eq_ofNat_of_zero_le (show 0 ≤ a by omega)
        rw [iz_clN (by omega), (hL.2.2.2.2.2.1 j (by omega)).1]
        exact ⟨iz_inN (by omega) (by omega), _, rfl, h2⟩
theorem r_stands {x y : Int32} (hW : rW M cnt SS) (ht0 : M.1 10 0 0 21 = iz (-1)) (h : ∀ M', Kp M M' → Q (some (zi (iz (fS cnt SS x (fun S => gStands S y) (-1))))) M') : zEv Γ 198 [zo 10 0 0, zi x, zi y] M Q := by
  refine en_198 (bk_198_0 (r_line hW ht0 (fun q => ⟨_, rfl, fun _ => ?_, fun q' => absurd rfl q'⟩) (fun s M1 hs hx hS ho hB hor hp ht1 => ⟨_, rfl, fun q' => absurd q' (by decide), fun _ => ?_⟩)))
  · have := h M (Kp.rf M)
    rw [fS_out q] at this
    exact this
  · have h6 := hS.1
    have hlen := linS_len hS
    have h2 := h M1 (Kp.ofR ho)
    rw [fS_in hs hW.2.1 hx] at h2
    unfold gStands at h2
    refine r_isBoard hS hB (fun q => ⟨_, rfl, fun _ => ?_, fun q' => absurd rfl q'⟩) (fun j hj hy => ⟨_, rfl, fun q' => absurd q' (by decide), fun _ => ?_⟩)
    · rw [if_neg (by omega)] at h2
      exact h2
    · subst hy
      rw [iz_toInt (by omega) (by omega)] at h2
      rw [hor.1, iz_le (by omega) (by omega) (by omega) (by omega), iz_clN (by omega)]
      refine ⟨fun q => ?_, fun q => ?_⟩
      · rw [if_neg (by omega)] at h2
        exact h2
      · rw [if_pos (by omega)] at h2
        rw [hor.2 j (by omega)]
        exact ⟨iz_inN (by omega) (by omega), h2⟩
theorem c_take {x : Int32} (hW : cW M cnt SS) (hI : ∀ t, t < 4 → lI M t) (h : ∀ M', Kp M M' → Q (some (zi (iz (fS cnt SS x gTake (-1))))) M') : zEv Γ 118 [zo 9 0 0, zi x] M Q := by
  refine en_118 (bk_118_0 (c_saleAt hW (fun q => Or.inl ⟨rfl, ?_⟩) (fun s hs hx => Or.inr ⟨s, rfl, ?_⟩)))
  · have := h M (Kp.rf M)
    rw [fS_out q] at this
    exact this
  · obtain ⟨hC, hS⟩ := hW.2.2 s hs
    have h6 := hS.1
    have hlen := linS_len hS
    refine c_line0 hC hS (hI 0 (by omega)) (fun M1 k1 hC1 hL => ⟨rfl, ?_⟩)
    have h2 := h M1 k1
    rw [fS_in hs hW.2.1 hx] at h2
    exact c_allPays (nb := (SS s 0).toNat) hS (by omega) hL (by omega) (rngS hS) (fun x hx => linS_lt hS hx) hS.2.2.2.1 (fun x hx => linS_bar hx) ⟨_, rfl, h2⟩
theorem r_take {x : Int32} (hW : rW M cnt SS) (ht0 : M.1 10 0 0 21 = iz (-1)) (h : ∀ M', Kp M M' → Q (some (zi (iz (fS cnt SS x gTake (-1))))) M') : zEv Γ 201 [zo 10 0 0, zi x] M Q := by
  refine en_201 (bk_201_0 (r_line hW ht0 (fun q => ⟨_, rfl, fun _ => ?_, fun q' => absurd rfl q'⟩) (fun s M1 hs hx hS ho hB hor hp ht1 => ⟨_, rfl, fun q' => absurd q' (by decide), fun _ => ?_⟩)))
  · have := h M (Kp.rf M)
    rw [fS_out q] at this
    exact this
  · have h6 := hS.1
    have h2 := h M1 (Kp.ofR ho)
    rw [fS_in hs hW.2.1 hx] at h2
    exact r_takeNow (nb := (SS s 0).toNat) hS (by omega) hB hp ⟨_, rfl, h2⟩
theorem c_worth {x y w : Int32} (hW : cW M cnt SS) (h : Q (some (zi (iz (fS cnt SS x (fun S => gWorth S y w) (-1))))) M) : zEv Γ 113 [zo 9 0 0, zi x, zi y, zi w] M Q := by
  refine en_113 (bk_113_0 (c_saleAt hW (fun q => Or.inl ⟨rfl, ?_⟩) (fun s hs hx => Or.inr ⟨s, rfl, ?_⟩)))
  · rw [fS_out q] at h
    exact h
  · obtain ⟨hC, hS⟩ := hW.2.2 s hs
    have h6 := hS.1
    have h7 := hS.2.1
    rw [fS_in hs hW.2.1 hx] at h
    unfold gWorth at h
    refine c_hasBidder hS hC (fun q => ⟨_, rfl, fun _ => ?_, fun q' => absurd rfl q'⟩) (fun i hi hy => ⟨_, rfl, fun q' => absurd q' (by decide), fun _ => ?_⟩)
    · rw [if_neg (by omega)] at h
      exact h
    · refine c_hasBoard hS hC (fun q => ⟨_, rfl, fun _ => ?_, fun q' => absurd rfl q'⟩) (fun j hj hw => ⟨_, rfl, fun q' => absurd q' (by decide), fun _ => ?_⟩)
      · rw [if_neg (by omega)] at h
        exact h
      · subst hy; subst hw
        rw [iz_toInt (by omega) (by omega), iz_toInt (by omega) (by omega), if_pos (by omega)] at h
        exact c_worthTo hS hC (by omega) (by omega) ⟨_, rfl, h⟩
theorem r_worth {x y w : Int32} (hW : rW M cnt SS) (ht0 : M.1 10 0 0 21 = iz (-1)) (h : ∀ M', Kp M M' → Q (some (zi (iz (fS cnt SS x (fun S => gWorth S y w) (-1))))) M') : zEv Γ 195 [zo 10 0 0, zi x, zi y, zi w] M Q := by
  refine en_195 (bk_195_0 (r_isSale hW (fun q => ⟨_, rfl, fun _ => ?_, fun q' => absurd rfl q'⟩) (fun s M1 hs hx ho hB => ⟨_, rfl, fun q' => absurd q' (by decide), fun _ => ?_⟩)))
  · have := h M (Kp.rf M)
    rw [fS_out q] at this
    exact this
  · have hS := (hW.2.2 s hs).2
    have h6 := hS.1
    have h7 := hS.2.1
    have h := h M1 (Kp.ofR (ho.wk fun _ _ _ _ => rSl_sc))
    have ht1 : M1.1 10 0 0 21 = iz (-1) := (ho.1 _ _ _ _ (by rintro ⟨-, -, -, q⟩; omega)).trans ht0
    rw [fS_in hs hW.2.1 hx] at h
    unfold gWorth at h
    refine r_isBidder hS hB (fun q => ⟨_, rfl, fun _ => ?_, fun q' => absurd rfl q'⟩) (fun i hi hy => ⟨_, rfl, fun q' => absurd q' (by decide), fun _ => ?_⟩)
    · rw [if_neg (by omega)] at h
      exact h
    · refine r_isBoard hS hB (fun q => ⟨_, rfl, fun _ => ?_, fun q' => absurd rfl q'⟩) (fun j hj hw => ⟨_, rfl, fun q' => absurd q' (by decide), fun _ => ?_⟩)
      · rw [if_neg (by omega)] at h
        exact h
      · subst hy; subst hw
        rw [iz_toInt (by omega) (by omega), iz_toInt (by omega) (by omega), if_pos (by omega)] at h
        refine r_worthOf (tl := -1) (tg := 0) hS hB ht1 (by omega) (Or.inr rfl) (by omega) (by omega) ⟨_, rfl, ?_⟩
        unfold valO
        rw [if_neg (by omega)]
        exact h
end Z39
