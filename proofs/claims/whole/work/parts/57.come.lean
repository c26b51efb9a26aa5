/-! come -/
def bt (i : Nat) : Int32 := 1 <<< (iz (i : Int) &&& 31)
def msk (P : Nat → Bool) : Nat → Int32
  | 0 => 0
  | m + 1 => msk P m ||| (if P m = true then bt m else 0)
theorem msk_congr {P P' : Nat → Bool} : ∀ m, (∀ i, i < m → P i = P' i) → msk P m = msk P' m
  | 0, _ => rfl
  | m + 1, h => by rw [msk, msk, msk_congr m (fun i hi => h i (by omega)), h m (by omega)]
theorem msk_z {P : Nat → Bool} : ∀ m, (∀ i, i < m → P i = false) → msk P m = 0
  | 0, _ => rfl
  | m + 1, h => by rw [msk, msk_z m (fun i hi => h i (by omega)), h m (by omega), if_neg (by simp)]; rfl
theorem msk_or {P P' : Nat → Bool} {x : Nat} (hP : ∀ i, P' i = (decide (i = x) || P i)) : ∀ m, x < m → msk P' m = msk P m ||| bt x
  | 0, h => by omega
  | m + 1, h => by
    by_cases hx : x = m
    · subst hx
      rw [msk, msk, msk_congr (P := P') (P' := P) x (fun i hi => by rw [hP, decide_eq_false (by omega)]; rfl), hP x]
      rw [if_pos (by simp), Int32.or_assoc]
      split
      · rw [Int32.or_self]
      · rw [Int32.zero_or]
    · rw [msk, msk, msk_or hP m (by omega), hP m, decide_eq_false (by omega), Int32.or_assoc, Int32.or_assoc, Int32.or_comm (bt x)]
      rfl
def bdN (S : SB) (v : Int) : Nat → Int := updB (bdS S) (S 1).toNat v
def mkN (S : SB) : Nat → Int := updB (mkS S) (S 1).toNat 1
def linN (S : SB) (v : Int) : List Nat := lin (bdN S v) (mkN S) (fun _ => false) (S 3) ((S 1).toNat + 1)
def chg (l l' : List Nat) (nb i : Nat) : Bool := decide (plc l' nb i ≠ plc l nb i)
def gCome (S : SB) (y w : Int32) : Int := if (0 ≤ y.toInt ∧ y.toInt ≤ 99) ∧ 0 ≤ w.toInt ∧ w.toInt ≤ 99 then (match plc (linN S w.toInt) (S 0).toNat (S 1).toNat with
  | some p => if payB S (bdN S w.toInt) (mkN S) (S 3) (linN S w.toInt) (S 0).toNat p ≤ y.toInt * pas S p then (msk (chg (linS S) (linN S w.toInt) (S 0).toNat) ((S 1).toNat + 1)).toInt else 0
  | none => 0) else -1
theorem srt_nd {sc : Nat → Int} {l : List Nat} (h : srt sc l) : ∀ a b, a < b → b < l.length → l.getD a 0 ≠ l.getD b 0 := by
  intro a b hab hb
  have := List.pairwise_iff_getElem.mp h a b (by omega) hb hab
  rw [List.getD_eq_getElem?_getD, List.getElem?_eq_getElem (by omega), List.getD_eq_getElem?_getD, List.getElem?_eq_getElem hb]
  simp only [Option.getD_some]
  unfold bef at this
  intro e
  rw [e] at this
  omega
theorem plc_nd {l : List Nat} (h : ∀ a b, a < b → b < l.length → l.getD a 0 ≠ l.getD b 0) {m nb : Nat} (hm : m < l.length) : plc l nb (l.getD m 0) = if m < nb then some m else none := by
  unfold plc
  split
  · exact fnd_eq _ _ (fun k _ hk => by rw [beq_eq_false_iff_ne]; exact h k m hk hm) (by simp) (by omega) (by omega)
  · refine fnd_no _ _ (fun k _ hk => ?_)
    rw [beq_eq_false_iff_ne]
    exact h k m (by omega) hm
theorem mem_ex {l : List Nat} {x : Nat} (h : x ∈ l) : ∃ m, m < l.length ∧ l.getD m 0 = x := by
  obtain ⟨m, hm, e⟩ := List.mem_iff_getElem.mp h
  exact ⟨m, hm, by rw [List.getD_eq_getElem?_getD, List.getElem?_eq_getElem hm]; exact e⟩
theorem cut_nd {l : List Nat} {p n : Nat} (hp : p ≤ l.length) (hn : n ∉ l) (h : ∀ a b, a < b → b < l.length → l.getD a 0 ≠ l.getD b 0) : ∀ a b, a < b → b < (l.take p ++ n :: l.drop p).length → (l.take p ++ n :: l.drop p).getD a 0 ≠ (l.take p ++ n :: l.drop p).getD b 0 := by
  intro a b hab hb
  have hlen : (l.take p ++ n :: l.drop p).length = l.length + 1 := by
    rw [List.length_append, List.length_cons, List.length_take, List.length_drop]
    omega
  have hmem : ∀ k, k < l.length → l.getD k 0 ≠ n := fun k hk e => hn (by rw [← e]; exact getD_mem hk)
  rw [cut_get hp, cut_get hp]
  by_cases h1 : a < p
  · rw [if_pos h1]
    by_cases h2 : b < p
    · rw [if_pos h2]
      exact h a b hab (by omega)
    · rw [if_neg h2]
      by_cases h3 : b = p
      · rw [if_pos h3]
        exact hmem a (by omega)
      · rw [if_neg h3]
        exact h a (b - 1) (by omega) (by omega)
  · rw [if_neg h1, if_neg (show ¬ b < p by omega), if_neg (show ¬ b = p by omega)]
    by_cases h3 : a = p
    · rw [if_pos h3]
      exact (hmem (b - 1) (by omega)).symm
    · rw [if_neg h3]
      exact h (a - 1) (b - 1) (by omega) (by omega)
theorem plc_old {l : List Nat} {p n nb m : Nat} (hp : p ≤ l.length) (hn : n ∉ l) (h : ∀ a b, a < b → b < l.length → l.getD a 0 ≠ l.getD b 0) (hm : m < l.length) : plc (l.take p ++ n :: l.drop p) nb (l.getD m 0) = if m < p then (if m < nb then some m else none) else (if m + 1 < nb then some (m + 1) else none) := by
  have hlen : (l.take p ++ n :: l.drop p).length = l.length + 1 := by
    rw [List.length_append, List.length_cons, List.length_take, List.length_drop]
    omega
  have nd := cut_nd hp hn h
  by_cases hmp : m < p
  · have e : (l.take p ++ n :: l.drop p).getD m 0 = l.getD m 0 := by rw [cut_get hp, if_pos hmp]
    rw [if_pos hmp, ← e, plc_nd nd (by omega)]
  · have e : (l.take p ++ n :: l.drop p).getD (m + 1) 0 = l.getD m 0 := by rw [cut_get hp, if_neg (by omega), if_neg (by omega)]; rfl
    rw [if_neg hmp, ← e, plc_nd nd (by omega)]
theorem chg_no {l : List Nat} {p n nb i : Nat} (hp : p ≤ l.length) (hn : n ∉ l) (h : ∀ a b, a < b → b < l.length → l.getD a 0 ≠ l.getD b 0) (hnb : nb ≤ p) : chg l (l.take p ++ n :: l.drop p) nb i = false := by
  unfold chg
  rw [decide_eq_false_iff_not, Classical.not_not]
  by_cases hi : i ∈ l
  · obtain ⟨m, hm, rfl⟩ := mem_ex hi
    rw [plc_old hp hn h hm, plc_nd h hm]
    split
    · rfl
    · rw [if_neg (by omega), if_neg (by omega)]
  · by_cases e : i = n
    · subst e
      rw [plc_cut hp hn, if_neg (by omega), plc_no hi]
    · rw [plc_no hi, plc_no (by simp only [List.mem_append, List.mem_cons]; rintro (q | q | q); exact hi (List.mem_of_mem_take q); exact e q; exact hi (List.mem_of_mem_drop q))]
theorem chg_yes {l : List Nat} {p n nb i : Nat} (hp : p ≤ l.length) (hn : n ∉ l) (h : ∀ a b, a < b → b < l.length → l.getD a 0 ≠ l.getD b 0) (hnb : p < nb) : chg l (l.take p ++ n :: l.drop p) nb i = true ↔ ∃ k, p ≤ k ∧ k < min (l.length + 1) (nb + 1) ∧ (l.take p ++ n :: l.drop p).getD k 0 = i := by
  have hlen : (l.take p ++ n :: l.drop p).length = l.length + 1 := by
    rw [List.length_append, List.length_cons, List.length_take, List.length_drop]
    omega
  have nd := cut_nd hp hn h
  unfold chg
  rw [decide_eq_true_iff]
  by_cases hi : i ∈ l
  · obtain ⟨m, hm, rfl⟩ := mem_ex hi
    rw [plc_old hp hn h hm, plc_nd h hm]
    by_cases hmp : m < p
    · rw [if_pos hmp]
      refine ⟨fun q => absurd rfl q, ?_⟩
      rintro ⟨k, k1, k2, k3⟩
      exfalso
      refine nd m k (by omega) (by omega) ?_
      rw [k3, cut_get hp, if_pos hmp]
    · have e : (l.take p ++ n :: l.drop p).getD (m + 1) 0 = l.getD m 0 := by rw [cut_get hp, if_neg (by omega), if_neg (by omega)]; rfl
      rw [if_neg hmp]
      constructor
      · intro q
        have : m < nb := by
          apply Classical.byContradiction
          intro z
          rw [if_neg (by omega), if_neg z] at q
          exact q rfl
        exact ⟨m + 1, by omega, by omega, e⟩
      · rintro ⟨k, k1, k2, k3⟩
        have : k = m + 1 := by
          apply Classical.byContradiction
          intro z
          rw [← e] at k3
          by_cases hk : k < m + 1
          · exact nd k (m + 1) hk (by omega) k3
          · exact nd (m + 1) k (by omega) (by omega) k3.symm
        rw [if_pos (show m < nb by omega)]
        split
        · simp
        · simp
  · by_cases e : i = n
    · subst e
      rw [plc_cut hp hn, if_pos hnb, plc_no hi]
      refine ⟨fun _ => ⟨p, by omega, by omega, ?_⟩, fun _ => by simp⟩
      rw [cut_get hp, if_neg (by omega), if_pos rfl]
    · have hi' : i ∉ l.take p ++ n :: l.drop p := by
        simp only [List.mem_append, List.mem_cons]
        rintro (q | q | q)
        · exact hi (List.mem_of_mem_take q)
        · exact e q
        · exact hi (List.mem_of_mem_drop q)
      rw [plc_no hi, plc_no hi']
      refine ⟨fun q => absurd rfl q, ?_⟩
      rintro ⟨k, k1, k2, k3⟩
      exact absurd (by rw [← k3]; exact getD_mem (by omega)) hi'
theorem bdN_o {S : SB} {v : Int} {x : Nat} (h : x < (S 1).toNat) : bdN S v x = bdS S x ∧ mkN S x = mkS S x := ⟨updB_ne (by omega), updB_ne (by omega)⟩
theorem bdN_n {S : SB} {v : Int} : bdN S v (S 1).toNat = v := updB_eq
theorem mkN_n {S : SB} : mkN S (S 1).toNat = 1 := updB_eq
theorem rngN {S : SB} (hS : SOK S) {v : Int} (hv : 0 ≤ v ∧ v ≤ 99) : rng ((S 1).toNat + 1) (bdN S v) (mkN S) := fun k hk => by
  by_cases e : k = (S 1).toNat
  · subst e
    rw [bdN_n, mkN_n]
    omega
  · rw [(bdN_o (by omega)).1, (bdN_o (v := v) (by omega)).2]
    exact rngS hS k (by omega)
theorem linN_o {S : SB} {v : Int} : lin (bdN S v) (mkN S) (fun _ => false) (S 3) (S 1).toNat = linS S := lin_congr _ (fun k hk _ => bdN_o hk)
theorem linN_no {S : SB} {v : Int} (h : v < S 3 ∨ v = 0) : linN S v = linS S := by
  unfold linN
  rw [lin, linN_o, if_pos (by rw [bdN_n]; exact Or.inr h)]
theorem linN_ad {S : SB} (hS : SOK S) {v : Int} (h : ¬ (v < S 3 ∨ v = 0)) : linN S v = ins2 (fun k => bdN S v k * mkN S k) (S 1).toNat (linS S) := by
  unfold linN
  rw [lin, linN_o, if_neg (by rw [bdN_n]; simpa using h), ins2_ins _ (fun x hx => linS_lt hS hx)]
def inB (l : List Nat) (p : Nat) : Nat → Nat → Bool
  | 0, _ => false
  | q + 1, i => decide (p ≤ q ∧ i = l.getD q 0) || inB l p q i
theorem inB_iff {l : List Nat} {p i : Nat} : ∀ q, inB l p q i = true ↔ ∃ k, p ≤ k ∧ k < q ∧ l.getD k 0 = i
  | 0 => by simp [inB]
  | q + 1 => by
    rw [inB, Bool.or_eq_true, decide_eq_true_iff, inB_iff q]
    constructor
    · rintro (⟨a, b⟩ | ⟨k, a, b, c⟩)
      · exact ⟨q, a, by omega, b.symm⟩
      · exact ⟨k, a, by omega, c⟩
    · rintro ⟨k, a, b, c⟩
      by_cases e : k = q
      · subst e
        exact Or.inl ⟨a, c.symm⟩
      · exact Or.inr ⟨k, a, by omega, c⟩
theorem opI_inj {l l' : List Nat} {nb i : Nat} (hnb : nb ≤ 6) : (iz (opI (plc l' nb i)) = iz (opI (plc l nb i))) ↔ plc l' nb i = plc l nb i := by
  have h1 := opI_b (l := l) (i := i) hnb
  have h2 := opI_b (l := l') (i := i) hnb
  rw [iz_eq (by omega) (by omega) (by omega) (by omega)]
  constructor
  · intro e
    cases h3 : plc l nb i <;> cases h4 : plc l' nb i <;> rw [h3, h4] at e <;> simp [opI] at e ⊢ <;> omega
  · intro e
    rw [e]
section Z57
variable {Γ : zC} {Q : zQ} {M : zM} {b cnt t ts n nb : Nat} {S : SB} {SS : Nat → SB} {bar : Int} {bd mk : Nat → Int} {l : List Nat}
theorem c_bits {p m : Nat} (hS : SOK S) (hnb : S 0 = (nb : Int)) (hL : cL M t S bar bd mk l) (hlen : l.length ≤ 8) (hl : ∀ x ∈ l, x < m) (hp : p < min l.length (nb + 1)) (h : Q (some (zi (msk (inB l p (min l.length (nb + 1))) m))) M) : zEv Γ 38 [zo 2 t 0, zi (iz (p : Int))] M Q := by
  have h6 := hS.1
  have e5 : M.1 2 t 0 5 = iz (S 0) := hL.1
  have e8 : M.1 2 t 0 8 = iz (l.length : Int) := hL.2.2.2.1
  refine en_38 (bk_38_0 ?_)
  rw [show (if iz (p : Int) < 0 then (0 : Int32) else iz (p : Int)) = iz (p : Int) from if_neg (by rw [iz0, iz_lt (by omega) (by omega) (by omega) (by omega)]; omega)]
  have e0 : (0 : Int32) = msk (inB l p p) m := (msk_z (P := inB l p p) m (fun i _ => by
    rw [Bool.eq_false_iff]
    intro q
    obtain ⟨k, a, b, c⟩ := (inB_iff p).mp q
    omega)).symm
  rw [e0]
  refine nloop (G := fun q => p ≤ q → zGo Γ 38 Q 8 [some (zo 2 t 0), none, some (zi (msk (inB l p q) m)), some (zi (iz (q : Int)))] [] M) (n := min l.length (nb + 1)) (fun _ => ?_) (fun q hq ih hpq => ?_) (min l.length (nb + 1) - p) p (by omega) (by omega)
  · refine bk_38_8 ⟨fun _ => h, fun q => ⟨fun _ => h, fun q2 => ?_⟩⟩
    rw [e8, iz_le (by omega) (by omega) (by omega) (by omega)] at q
    rw [e5, iz_lt (by omega) (by omega) (by omega) (by omega)] at q2
    omega
  · refine bk_38_8 ⟨fun z => ?_, fun _ => ⟨fun z => ?_, fun _ => ⟨iz_inN (by omega) (by omega), ?_⟩⟩⟩
    · rw [e8, iz_le (by omega) (by omega) (by omega) (by omega)] at z
      omega
    · rw [e5, iz_lt (by omega) (by omega) (by omega) (by omega)] at z
      omega
    · rw [iz_clN (by omega), (hL.2.2.2.2.2.1 q (by omega)).1, iz_s]
      have := ih (by omega)
      rw [msk_or (P := inB l p q) (P' := inB l p (q + 1)) (x := l.getD q 0) (fun i => by rw [inB]; simp [hpq]) m (hl _ (getD_mem (by omega)))] at this
      exact this
theorem c_come {x y w : Int32} (hW : cW M cnt SS) (hI : ∀ t, t < 4 → lI M t) (h : ∀ M', Kp M M' → Q (some (zi (iz (fS cnt SS x (fun S => gCome S y w) (-1))))) M') : zEv Γ 136 [zo 9 0 0, zi x, zi y, zi w] M Q := by
  refine en_136 (bk_136_0 (c_saleAt hW (fun q => Or.inl ⟨rfl, ?_⟩) (fun s hs hx => Or.inr ⟨s, rfl, ?_⟩)))
  · have := h M (Kp.rf M)
    rw [fS_out q] at this
    exact this
  · obtain ⟨hC, hS⟩ := hW.2.2 s hs
    have h7 := hS.2.1
    have h6 := hS.1
    rw [fS_in hs hW.2.1 hx] at h
    unfold gCome at h
    refine c_upToTop (fun q => ⟨_, rfl, fun _ => ?_, fun q' => absurd rfl q'⟩) (fun m hm hy => ⟨_, rfl, fun q' => absurd q' (by decide), fun _ => c_upToTop (fun q => ⟨_, rfl, fun q' => absurd rfl q', fun _ => ?_⟩) (fun v hv hw => ⟨_, rfl, fun _ => ?_, fun q' => absurd q' (by decide)⟩)⟩)
    · have h2 := h M (Kp.rf M)
      rw [if_neg (by omega)] at h2
      exact h2
    · have h2 := h M (Kp.rf M)
      rw [if_neg (by omega)] at h2
      exact h2
    · subst hy hw
      rw [iz_toInt (by omega) (by omega), iz_toInt (by omega) (by omega), if_pos (by omega)] at h
      refine c_line0 hC hS (hI 0 (by omega)) (fun M1 k1 C1 L1 => ⟨rfl, ?_⟩)
      have hlen := linS_len hS
      have hni : (SS s 1).toNat ∉ linS (SS s) := fun q => by have := linS_lt hS q; omega
      have L1' : cL M1 0 (SS s) (SS s 3) (bdN (SS s) (v : Int)) (mkN (SS s)) (linS (SS s)) := L1.congr (fun x hx => ⟨(bdN_o (linS_lt hS hx)).1.symm, (bdN_o (v := (v : Int)) (linS_lt hS hx)).2.symm⟩)
      have hsr : srt (fun k => bdN (SS s) (v : Int) k * mkN (SS s) k) (linS (SS s)) := by
        rw [← linN_o (v := (v : Int))]
        exact lin_srt _
      have nd := srt_nd hsr
      have pk : ∀ {Q1 : zQ}, ((v : Int) < SS s 3 ∨ (v : Int) = 0 → Q1 (some (zi (iz (-1)))) M1) → (¬ ((v : Int) < SS s 3 ∨ (v : Int) = 0) → ∀ (p : Nat) (M' : zM), Off (cLn 0) M1 M' → p ≤ (linS (SS s)).length → linN (SS s) (v : Int) = (linS (SS s)).take p ++ (SS s 1).toNat :: (linS (SS s)).drop p → cL M' 0 (SS s) (SS s 3) (bdN (SS s) (v : Int)) (mkN (SS s)) (linN (SS s) (v : Int)) → Q1 (some (zi (iz (p : Int)))) M') → zEv Γ 20 [zo 2 0 0, zi (M1.1 7 s 0 1), zi (iz (v : Int)), zi 1] M1 Q1 := by
        intro Q1 hf ht
        have := c_putIn (Γ := Γ) (Q := Q1) (i := (SS s 1).toNat) (n := (SS s 1).toNat + 1) L1' hlen hsr (rngN hS (by omega)) (fun x hx => by have := linS_lt hS hx; omega) (by omega) (by omega) hni hS.2.2.2.1 (by rw [bdN_n]; exact hf) (fun q p M' o hp e L => ht (by rw [bdN_n] at q; exact q) p M' o hp (by rw [linN_ad hS (by rw [bdN_n] at q; exact q)]; exact e) (by rw [linN_ad hS (by rw [bdN_n] at q; exact q)]; exact L))
        rw [bdN_n, mkN_n] at this
        rw [C1.1 1 (by omega), show SS s 1 = ((SS s 1).toNat : Int) by omega]
        exact this
      refine pk (fun q => ⟨_, rfl, c_hasBoard hS C1 (fun _ => ⟨_, rfl, fun _ => ?_, fun q' => absurd rfl q'⟩) (fun i hi e => ?_)⟩) (fun q p M2 o2 hp e L2 => ⟨_, rfl, c_hasBoard hS (C1.off o2 (by rintro f i ⟨q, -⟩; omega)) (fun q2 => ⟨_, rfl, fun _ => ?_, fun q' => absurd rfl q'⟩) (fun i hi hpi => ⟨_, rfl, fun q' => absurd q' (by decide), fun _ => ?_⟩)⟩)
      · have h2 := h M1 k1
        rw [linN_no q, plc_no hni] at h2
        exact h2
      · rw [iz_eq (by omega) (by omega) (by omega) (by omega)] at e
        omega
      · rw [iz_toInt (by omega) (by omega)] at q2
        have k2 : Kp M1 M2 := Kp.ofL o2 (cL.inv hS L2 (by rw [e, List.length_append, List.length_cons, List.length_take, List.length_drop]; omega))
        have h2 := h M2 (k1.tr k2)
        rw [show plc (linN (SS s) (v : Int)) (SS s 0).toNat (SS s 1).toNat = none by rw [e, plc_cut hp hni, if_neg (by omega)]] at h2
        exact h2
      · rw [iz_eq (by omega) (by omega) (by omega) (by omega)] at hpi
        have hl' : (linN (SS s) (v : Int)).length = (linS (SS s)).length + 1 := by
          rw [e, List.length_append, List.length_cons, List.length_take, List.length_drop]
          omega
        have k2 : Kp M1 M2 := Kp.ofL o2 (cL.inv hS L2 (by omega))
        have h2 := h M2 (k1.tr k2)
        have C2 := C1.off o2 (by rintro f i ⟨q, -⟩; omega)
        rw [show plc (linN (SS s) (v : Int)) (SS s 0).toNat (SS s 1).toNat = some p by rw [e, plc_cut hp hni, if_pos (by omega)]] at h2
        have hr := rngN hS (v := (v : Int)) (by omega)
        have hlt : ∀ x ∈ linN (SS s) (v : Int), x < (SS s 1).toNat + 1 := fun x hx => lin_lt _ x hx
        have hbl : ∀ x ∈ linN (SS s) (v : Int), SS s 3 ≤ bdN (SS s) (v : Int) x := fun x hx => (lin_bar hx).2
        refine ⟨iz_inN (by omega) (by omega), c_payAt (nb := (SS s 0).toNat) hS (by omega) L2 (by omega) hr hlt hS.2.2.2.1 hbl (by omega) ⟨_, rfl, ?_⟩⟩
        have pb := payB_b (nb := (SS s 0).toNat) hS hr hlt hS.2.2.2.1 hbl p
        have ps := pas_b hS p
        have mb : 0 ≤ (m : Int) * pas (SS s) p ∧ (m : Int) * pas (SS s) p ≤ 99 * 99 := ⟨Int.mul_nonneg (by omega) ps.1, Int.mul_le_mul (by omega) ps.2 ps.1 (by omega)⟩
        rw [iz_clN (by omega), C2.2.1 p (by omega), show SS s (4 + p) = pas (SS s) p by unfold pas; rw [if_pos (by omega)], iz_mul, iz_le (by omega) (by omega) (by omega) (by omega)]
        refine ⟨fun q3 => c_bits (nb := (SS s 0).toNat) (m := (SS s 1).toNat + 1) hS (by omega) L2 (by omega) hlt (by omega) ⟨_, rfl, ?_⟩, fun q3 => ?_⟩
        · simp only [if_pos q3] at h2
          rw [iz_of] at h2
          rw [show msk (inB (linN (SS s) (v : Int)) p (min (linN (SS s) (v : Int)).length ((SS s 0).toNat + 1))) ((SS s 1).toNat + 1) = msk (chg (linS (SS s)) (linN (SS s) (v : Int)) (SS s 0).toNat) ((SS s 1).toNat + 1) from msk_congr _ (fun i _ => ?_)]
          · exact h2
          · rw [Bool.eq_iff_iff, inB_iff, e, chg_yes hp hni nd (by omega)]
            rw [← e, hl']
        · simp only [if_neg q3] at h2
          exact h2
theorem r_come {x y w : Int32} (hW : rW M cnt SS) (ht0 : M.1 10 0 0 21 = iz (-1)) (h : ∀ M', Kp M M' → Q (some (zi (iz (fS cnt SS x (fun S => gCome S y w) (-1))))) M') : zEv Γ 235 [zo 10 0 0, zi x, zi y, zi w] M Q := by
  refine en_235 (bk_235_0 (r_laid hW (fun q => ⟨_, rfl, fun _ => ?_, fun q' => absurd rfl q'⟩) (fun s n nb M1 hs hx hn hnb ho hB hb hor hp => ⟨_, rfl, fun q' => absurd q' (by decide), fun _ => ?_⟩)))
  · have := h M (Kp.rf M)
    rw [fS_out q] at this
    exact this
  · have hS := (hW.2.2 s hs).2
    have h7 := hS.2.1
    have h6 := hS.1
    have en : n = (SS s 1).toNat := by omega
    have enb : nb = (SS s 0).toNat := by omega
    subst en enb
    have hor : rOr M1 (linS (SS s)) := hor
    rw [fS_in hs hW.2.1 hx] at h
    unfold gCome at h
    obtain ⟨a, ha1, ha2, rfl⟩ := iz_ex y
    obtain ⟨v, hv1, hv2, rfl⟩ := iz_ex w
    rw [iz_toInt ha1 ha2, iz_toInt hv1 hv2] at h
    have bad : ¬ ((0 ≤ a ∧ a ≤ 99) ∧ 0 ≤ v ∧ v ≤ 99) → Q (some (zi (-1))) M1 := fun q => by
      have h2 := h M1 (Kp.ofR ho)
      rw [if_neg q] at h2
      exact h2
    refine r_isIn (lo := 0) (hi := 99) (by omega) (by omega) (by omega) (fun q1 q2 => ⟨_, rfl, fun q' => absurd q' (by decide), fun _ => r_isIn (lo := 0) (hi := 99) (by omega) (by omega) (by omega) (fun q3 q4 => ⟨_, rfl, fun _ => ?_, fun q' => absurd q' (by decide)⟩) (fun q3 => ⟨_, rfl, fun q' => absurd rfl q', fun _ => bad (by omega)⟩)⟩) (fun q => ⟨_, rfl, fun _ => bad (by omega), fun q' => absurd rfl q'⟩)
    rw [if_pos (by omega)] at h
    have hlen := linS_len hS
    have hni : (SS s 1).toNat ∉ linS (SS s) := fun q => by have := linS_lt hS q; omega
    have hsr : srt (fun k => bdS (SS s) k * mkS (SS s) k) (linS (SS s)) := lin_srt _
    have nd := srt_nd hsr
    have hlN : (linN (SS s) v).length ≤ 8 := by
      have := lin_len (bd := bdN (SS s) v) (mk := mkN (SS s)) (ex := fun _ => false) (bar := SS s 3) ((SS s 1).toNat + 1)
      unfold linN
      omega
    have hr := rngN hS (v := v) (by omega)
    have hltN : ∀ x ∈ linN (SS s) v, x < (SS s 1).toNat + 1 := fun x hx => lin_lt _ x hx
    have hbl : ∀ x ∈ linN (SS s) v, SS s 3 ≤ bdN (SS s) v x := fun x hx => (lin_bar hx).2
    refine zloop (P := fun k M2 => Off rSc M M2 ∧ rB M2 (510 + 260 * s) (SS s) ∧ rBd M2 (SS s 1).toNat (bdS (SS s)) (mkS (SS s)) (fun _ => false) ∧ rOr M2 (linS (SS s)) ∧ ∀ j, j < k → M2.1 10 0 37 j = iz (opI (plc (linS (SS s)) (SS s 0).toNat j))) (G := fun k M2 => zGo Γ 235 Q 33 [some (zo 10 0 0), none, some (zi (iz a)), some (zi (iz v)), some (zi (iz (k : Int))), none, none] [] M2) (n := 8) ?_ ?_ 8 0 M1 (by omega) ⟨ho, hB, hb, hor, fun j hj => by omega⟩
    · rintro M2 ⟨o2, B2, b2, r2, w2⟩
      refine bk_235_33 ⟨fun _ => ?_, fun q => absurd (by decide) q⟩
      have e14 : M2.1 10 0 0 14 = iz ((SS s 1).toNat : Int) := by rw [B2.2.2.1]; exact congrArg iz (by omega)
      rw [e14, iz_clN (by omega)]
      have f1 : (zw M2 10 0 16 (SS s 1).toNat (iz v)).1 10 0 0 14 = iz ((SS s 1).toNat : Int) := (zw_ne (by omega)).trans e14
      rw [f1, iz_clN (by omega)]
      have f2 : (zw (zw M2 10 0 16 (SS s 1).toNat (iz v)) 10 0 17 (SS s 1).toNat 1).1 10 0 0 14 = iz ((SS s 1).toNat : Int) := (zw_ne (by omega)).trans f1
      rw [f2, iz_clN (by omega)]
      have f3 : (zw (zw (zw M2 10 0 16 (SS s 1).toNat (iz v)) 10 0 17 (SS s 1).toNat 1) 10 0 18 (SS s 1).toNat (vp_nar .boolean 0)).1 10 0 0 14 = iz ((SS s 1).toNat : Int) := (zw_ne (by omega)).trans f2
      have B3 : rB (zw (zw (zw M2 10 0 16 (SS s 1).toNat (iz v)) 10 0 17 (SS s 1).toNat 1) 10 0 18 (SS s 1).toNat (vp_nar .boolean 0)) (510 + 260 * s) (SS s) := ((B2.w (by omega) (by omega)).w (by omega) (by omega)).w (by omega) (by omega)
      rw [f3, iz_s]
      refine ⟨iz_inN (by omega) (by omega), iz_inN (by omega) (by omega), iz_inN (by omega) (by omega), r_of B3 3 (by omega) rfl ⟨_, rfl, ?_⟩⟩
      refine r_laysE (bd := bdN (SS s) v) (mk := mkN (SS s)) (ex := fun _ => false) hS B3 (by omega) hr (fun j hj => ?_) hS.2.2.2.1 (fun M3 o3 ho3 hp3 => ⟨rfl, ?_⟩)
      · by_cases z : j = (SS s 1).toNat
        · subst z
          rw [bdN_n, mkN_n]
          exact ⟨by rw [zw_ne (by omega), zw_ne (by omega), zw_eq], by rw [zw_ne (by omega), zw_eq]; rfl, by rw [zw_eq]; rfl⟩
        · rw [(bdN_o (by omega)).1, (bdN_o (v := v) (by omega)).2]
          obtain ⟨z1, z2, z3⟩ := b2 j (by omega)
          exact ⟨by rw [zw_ne (by omega), zw_ne (by omega), zw_ne (by omega)]; exact z1, by rw [zw_ne (by omega), zw_ne (by omega), zw_ne (by omega)]; exact z2, by rw [zw_ne (by omega), zw_ne (by omega), zw_ne (by omega)]; exact z3⟩
      · have B4 := B3.off o3 (fun i => rLy_n (by omega) (by omega) (by omega)) (rLy_n (by omega) (by omega) (by omega)) (rLy_n (by omega) (by omega) (by omega)) (rLy_n (by omega) (by omega) (by omega))
        have ho3 : rOr M3 (linN (SS s) v) := ho3
        have w3 : ∀ j, j < 8 → M3.1 10 0 37 j = iz (opI (plc (linS (SS s)) (SS s 0).toNat j)) := fun j hj => by
          rw [o3.1 _ _ _ _ (rLy_n (by omega) (by omega) (by omega)), zw_ne (by omega), zw_ne (by omega), zw_ne (by omega)]
          exact w2 j hj
        have hk := h M3 (Kp.ofR ((((o2.w _ (by unfold rSc; omega)).w _ (by unfold rSc; omega)).w _ (by unfold rSc; omega)).tr (o3.wk fun _ _ _ _ => rLy_sc)))
        have pl : ∀ (Q' : zQ) (i : Nat), i < 8 → Q' (some (zi (iz (opI (plc (linN (SS s) v) (SS s 0).toNat i))))) M3 → zEv Γ 189 [zo 10 0 0, zi (iz (i : Int))] M3 Q' := fun Q' i hi hq => r_placeOf (nb := (SS s 0).toNat) hS (by omega) B4 ho3 (fun x hx => by have := hltN x hx; omega) hlN (by omega) hq
        have loop : Q (some (zi (msk (chg (linS (SS s)) (linN (SS s) v) (SS s 0).toNat) ((SS s 1).toNat + 1)))) M3 → zGo Γ 235 Q 158 [some (zo 10 0 0), none, none, none, none, some (zi 0), some (zi 0)] [] M3 := by
          intro hq
          refine nloop (G := fun i => zGo Γ 235 Q 158 [some (zo 10 0 0), none, none, none, none, some (zi (msk (chg (linS (SS s)) (linN (SS s) v) (SS s 0).toNat) i)), some (zi (iz (i : Int)))] [] M3) (n := (SS s 1).toNat + 1) ?_ (fun i hi ih => ?_) ((SS s 1).toNat + 1) 0 (by omega)
          · refine bk_235_158 ⟨fun _ => hq, fun q => ?_⟩
            rw [B4.2.2.1, iz_lt (by omega) (by omega) (by omega) (by omega)] at q
            omega
          · refine bk_235_158 ⟨fun q => ?_, fun _ => pl _ i (by omega) ⟨_, rfl, iz_inN (by omega) (by omega), ?_⟩⟩
            · rw [B4.2.2.1, iz_lt (by omega) (by omega) (by omega) (by omega)] at q
              omega
            rw [iz_clN (by omega), w3 i (by omega), opI_inj (by omega), iz_s]
            rw [msk] at ih
            refine ⟨fun q => ?_, fun q => ?_⟩
            · rw [if_neg (by unfold chg; simpa using q)] at ih
              exact ih
            · rw [if_pos (by unfold chg; simpa using q)] at ih
              exact ih
        have e14' : M3.1 10 0 0 14 = iz ((SS s 1).toNat : Int) := by rw [B4.2.2.1]; exact congrArg iz (by omega)
        rw [e14']
        refine pl _ _ (by omega) ⟨_, rfl, ?_⟩
        cases hpc : plc (linN (SS s) v) (SS s 0).toNat (SS s 1).toNat with
        | none =>
          refine ⟨fun _ => loop ?_, fun q => absurd (by decide) q⟩
          rw [hpc] at hk
          rw [msk_z]
          · exact hk
          · intro i _
            by_cases q : v < SS s 3 ∨ v = 0
            · unfold chg
              rw [linN_no q]
              simp
            · have e := linN_ad hS q
              have hsr' : srt (fun k => bdN (SS s) v k * mkN (SS s) k) (linS (SS s)) := by
                rw [← linN_o (v := v)]
                exact lin_srt _
              rw [ins2_plf (bd := bdN (SS s) v) (mk := mkN (SS s)) (s := bdN (SS s) v (SS s 1).toNat * mkN (SS s) (SS s 1).toNat) hsr' hni (fun _ _ => rfl) rfl] at e
              have hpl := plf_le (g := gLe (bdN (SS s) v) (mkN (SS s)) (linS (SS s)) (SS s 1).toNat (bdN (SS s) v (SS s 1).toNat * mkN (SS s) (SS s 1).toNat)) (linS (SS s)).length
              rw [e, plc_cut hpl hni] at hpc
              rw [e]
              refine chg_no hpl hni nd ?_
              split at hpc
              · cases hpc
              · omega
        | some p =>
          have hpb := plc_lt hpc
          rw [hpc] at hk
          have pb := payB_b (nb := (SS s 0).toNat) hS hr hltN hS.2.2.2.1 hbl p
          have ps := pas_b hS p
          have mb : 0 ≤ a * pas (SS s) p ∧ a * pas (SS s) p ≤ 99 * 99 := ⟨Int.mul_nonneg (by omega) ps.1, Int.mul_le_mul (by omega) ps.2 ps.1 (by omega)⟩
          refine ⟨fun q => ?_, fun _ => r_passOf hS B4 (j := p) (by omega) ⟨_, rfl, iz_inN (i := p) (by omega) (by omega), ?_⟩⟩
          · have q : iz (p : Int) < iz 0 := q
            rw [iz_lt (by omega) (by omega) (by omega) (by omega)] at q
            omega
          · show (M3.1 10 0 21 (iz (p : Int)).toNatClampNeg ≤ _ → _) ∧ (¬ M3.1 10 0 21 (iz (p : Int)).toNatClampNeg ≤ _ → _)
            rw [iz_clN (by omega), hp3 p (by omega), iz_mul]
            have hiff : (iz (payB (SS s) (bdN (SS s) v) (mkN (SS s)) (SS s 3) (linN (SS s) v) (SS s 0).toNat p) ≤ iz (a * pas (SS s) p)) = (payB (SS s) (bdN (SS s) v) (mkN (SS s)) (SS s 3) (linN (SS s) v) (SS s 0).toNat p ≤ a * pas (SS s) p) := iz_le (by omega) (by omega) (by omega) (by omega)
            refine ⟨fun q => loop ?_, fun q => ?_⟩
            · have q := hiff.mp q
              simp only [if_pos q] at hk
              rw [iz_of] at hk
              exact hk
            · have q := fun z => q (hiff.mpr z)
              simp only [if_neg q] at hk
              exact hk
    · rintro k M2 hk ⟨o2, B2, b2, r2, w2⟩ ih
      have e14 : M2.1 10 0 0 14 = iz (SS s 1) := B2.2.2.1
      have nxt : ∀ z : Int32, z = iz (opI (plc (linS (SS s)) (SS s 0).toNat k)) → zGo Γ 235 Q 33 [some (zo 10 0 0), none, some (zi (iz a)), some (zi (iz v)), some (zi (iz ((k + 1 : Nat) : Int))), none, none] [] (zw M2 10 0 37 k z) := fun z hz => ih _ ⟨o2.w _ (by unfold rSc; omega), B2.w (by omega) (by omega), b2.w (by omega), ⟨(zw_ne (by omega)).trans r2.1, fun j hj => (zw_ne (by omega)).trans (r2.2 j hj)⟩, fun j hj => by
        by_cases e : j = k
        · subst e
          rw [zw_eq, hz]
        · rw [zw_ne (by omega)]
          exact w2 j (by omega)⟩
      refine bk_235_33 ⟨fun q => ?_, fun _ => ⟨fun q => ⟨iz_inN (by omega) (by omega), ?_⟩, fun q => r_placeOf (nb := (SS s 0).toNat) hS (by omega) B2 r2 (fun x hx => by have := linS_lt hS hx; omega) (by omega) (by omega) ⟨_, rfl, iz_inN (by omega) (by omega), ?_⟩⟩⟩
      · rw [show (8 : Int32) = iz 8 from rfl, iz_le (by omega) (by omega) (by omega) (by omega)] at q
        omega
      · rw [e14, iz_le (by omega) (by omega) (by omega) (by omega)] at q
        rw [iz_clN (by omega), iz_s]
        refine nxt _ ?_
        rw [plc_no (fun z => by have := linS_lt hS z; omega)]
        rfl
      · rw [iz_clN (by omega), iz_s]
        exact nxt _ rfl
end Z57
