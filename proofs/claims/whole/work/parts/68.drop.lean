/-! a line that loses some -/
def lsB (bd : Nat → Int) (l : List Nat) : Nat → Int
  | 0 => 99
  | k + 1 => min (lsB bd l k) (bd (l.getD k 0))
theorem er_get {l : List Nat} {p k : Nat} : (l.eraseIdx p).getD k 0 = if k < p then l.getD k 0 else l.getD (k + 1) 0 := by
  rw [List.getD_eq_getElem?_getD, List.getElem?_eraseIdx]
  split
  · rw [List.getD_eq_getElem?_getD]
  · rw [List.getD_eq_getElem?_getD]
theorem er_len {l : List Nat} {p : Nat} (h : p < l.length) : (l.eraseIdx p).length = l.length - 1 := by rw [List.length_eraseIdx, if_pos h]
theorem lsB_le {bd : Nat → Int} {l : List Nat} : ∀ n k, k < n → lsB bd l n ≤ bd (l.getD k 0)
  | 0, k, h => by omega
  | n + 1, k, h => by
    rw [lsB]
    by_cases e : k = n
    · subst e
      omega
    · have := lsB_le (bd := bd) (l := l) n k (by omega)
      omega
theorem lsB_at {bd : Nat → Int} {l : List Nat} : ∀ n, 0 < n → (∀ k, k < n → bd (l.getD k 0) ≤ 99) → ∃ k, k < n ∧ lsB bd l n = bd (l.getD k 0)
  | 0, h, _ => by omega
  | n + 1, _, h => by
    rw [lsB]
    by_cases e : n = 0
    · subst e
      refine ⟨0, by omega, ?_⟩
      have := h 0 (by omega)
      rw [lsB]
      omega
    · obtain ⟨k, k1, k2⟩ := lsB_at (bd := bd) (l := l) n (by omega) (fun k hk => h k (by omega))
      by_cases q : lsB bd l n ≤ bd (l.getD n 0)
      · exact ⟨k, by omega, by omega⟩
      · exact ⟨n, by omega, by omega⟩
theorem lsB_b {bd : Nat → Int} {l : List Nat} (h : ∀ k, k < l.length → 0 ≤ bd (l.getD k 0) ∧ bd (l.getD k 0) ≤ 99) : ∀ n, n ≤ l.length → 0 ≤ lsB bd l n ∧ lsB bd l n ≤ 99
  | 0, _ => by rw [lsB]; omega
  | n + 1, hn => by
    have := lsB_b h n (by omega)
    have := h n (by omega)
    rw [lsB]
    omega
section Z68
variable {Γ : zC} {Q : zQ} {M : zM} {b t ts n nb : Nat} {S : SB} {bar : Int} {bd mk : Nat → Int} {l : List Nat}
theorem c_dropAt {p : Nat} (hL : cL M t S bar bd mk l) (hlen : l.length ≤ 8) (hp : p < l.length) (h : ∀ M', Off (cLn t) M M' → cL M' t S bar bd mk (l.eraseIdx p) → Q none M') : zEv Γ 21 [zo 2 t 0, zi (iz (p : Int))] M Q := by
  obtain ⟨l1, l2, l3, l4, l5, l6, l7⟩ := hL
  refine en_21 (bk_21_0 ?_)
  rw [l4, iz0, iz_lt (by omega) (by omega) (by omega) (by omega), iz_lt (by omega) (by omega) (by omega) (by omega)]
  refine ⟨fun q => by omega, fun _ => ⟨fun _ => ?_, fun q => by omega⟩⟩
  have el : iz (l.length : Int) - 1 = iz ((l.length - 1 : Nat) : Int) := by
    rw [iz1, iz_sub]
    exact congrArg iz (by omega)
  rw [el]
  refine zloop (P := fun q M2 => p ≤ q ∧ Off (cLn t) M M2 ∧ M2.1 2 t 0 8 = iz ((l.length - 1 : Nat) : Int) ∧ (∀ i, i ≠ 8 → M2.1 2 t 0 i = M.1 2 t 0 i) ∧ (∀ i, M2.1 2 t 1 i = M.1 2 t 1 i) ∧ ∀ f k, 2 ≤ f → f ≤ 5 → M2.1 2 t f k = if p ≤ k ∧ k < q then M.1 2 t f (k + 1) else M.1 2 t f k) (G := fun q M2 => zGo Γ 21 Q 25 [some (zo 2 t 0), none, some (zi (iz (q : Int)))] [] M2) (n := l.length - 1) ?_ ?_ (l.length - 1 - p) p _ (by omega) ⟨by omega, (Off.rf M).w _ ⟨rfl, rfl⟩, zw_eq, fun i hi => zw_ne (by omega), fun i => zw_ne (by omega), fun f k f1 f2 => by rw [zw_ne (by omega), if_neg (by omega)]⟩
  · rintro M2 ⟨_, o2, a2, b2, c2, d2⟩
    refine bk_21_25 ⟨fun _ => ?_, fun q => ?_⟩
    · rw [a2, iz_clN (by omega)]
      refine ⟨iz_inN (by omega) (by omega), h _ (o2.w _ ⟨rfl, rfl⟩) ⟨?_, ?_, ?_, ?_, fun j hj => ?_, fun k hk => ?_, fun k hk => ?_⟩⟩
      · rw [zw_ne (by omega), b2 5 (by omega), l1]
      · rw [zw_ne (by omega), b2 6 (by omega), l2]
      · rw [zw_ne (by omega), b2 7 (by omega), l3]
      · rw [zw_ne (by omega), a2, er_len hp]
      · rw [zw_ne (by omega), c2, l5 j hj]
      · rw [er_len hp] at hk
        rw [zw_ne (by omega), zw_ne (by omega), zw_ne (by omega), d2 2 k (by omega) (by omega), d2 3 k (by omega) (by omega), d2 4 k (by omega) (by omega), er_get]
        by_cases z : k < p
        · simp only [if_neg (show ¬ (p ≤ k ∧ k < l.length - 1) by omega), if_pos z]
          exact l6 k (by omega)
        · simp only [if_pos (show p ≤ k ∧ k < l.length - 1 by omega), if_neg z]
          exact l6 (k + 1) (by omega)
      · unfold sco
        rw [er_len hp, er_get]
        by_cases e : k = l.length - 1
        · rw [e, zw_eq, if_neg (by omega)]
          rfl
        · rw [zw_ne (by omega), d2 5 k (by omega) (by omega)]
          by_cases z : k < p
          · rw [if_neg (by omega), if_pos (by omega), if_pos z, l7 k hk]
            unfold sco
            rw [if_pos (by omega)]
          · by_cases z2 : k < l.length - 1
            · rw [if_pos (by omega), if_pos z2, if_neg z, l7 (k + 1) (by omega)]
              unfold sco
              rw [if_pos (by omega)]
            · rw [if_neg (by omega), if_neg z2, l7 k hk]
              unfold sco
              rw [if_neg (by omega)]
    · rw [a2, iz_le (by omega) (by omega) (by omega) (by omega)] at q
      omega
  · rintro q M2 hq ⟨p2, o2, a2, b2, c2, d2⟩ ih
    refine bk_21_25 ⟨fun z => ?_, fun _ => ?_⟩
    · rw [a2, iz_le (by omega) (by omega) (by omega) (by omega)] at z
      omega
    have v8 := iz_inN (i := q) (n := 8) (by omega) (by omega)
    have v9 := iz_inN (i := q + 1) (n := 8) (by omega) (by omega)
    rw [iz_s, iz_clN (by omega), iz_clN (by omega)]
    refine ⟨v9, v8, v9, v8, v9, v8, iz_inN (by omega) (by omega), iz_inN (by omega) (by omega), ih _ ⟨by omega, (((o2.w _ ⟨rfl, rfl⟩).w _ ⟨rfl, rfl⟩).w _ ⟨rfl, rfl⟩).w _ ⟨rfl, rfl⟩, ?_, fun i hi => ?_, fun i => ?_, fun f k f1 f2 => ?_⟩⟩
    · rw [zw_ne (by omega), zw_ne (by omega), zw_ne (by omega), zw_ne (by omega), a2]
    · rw [zw_ne (by omega), zw_ne (by omega), zw_ne (by omega), zw_ne (by omega), b2 i hi]
    · rw [zw_ne (by omega), zw_ne (by omega), zw_ne (by omega), zw_ne (by omega), c2]
    · by_cases e : k = q
      · subst e
        rw [if_pos (by omega)]
        have d3 : M2.1 2 t f (k + 1) = M.1 2 t f (k + 1) := by rw [d2 f (k + 1) f1 f2, if_neg (by omega)]
        rcases (by omega : f = 2 ∨ f = 3 ∨ f = 4 ∨ f = 5) with rfl | rfl | rfl | rfl
        · rw [zw_ne (by omega), zw_ne (by omega), zw_ne (by omega), zw_eq, d3]
        · rw [zw_ne (by omega), zw_ne (by omega), zw_eq, zw_ne (by omega), d3]
        · rw [zw_ne (by omega), zw_eq, zw_ne (by omega), zw_ne (by omega), d3]
        · rw [zw_eq, zw_ne (by omega), zw_ne (by omega), zw_ne (by omega), d3]
      · rw [zw_ne (by omega), zw_ne (by omega), zw_ne (by omega), zw_ne (by omega), d2 f k f1 f2]
        by_cases z : p ≤ k ∧ k < q
        · rw [if_pos z, if_pos (by omega)]
        · rw [if_neg z, if_neg (by omega)]
theorem tk_get {l r : List Nat} {m : Nat} (hm : m ≤ l.length) {k : Nat} (hk : k < m) : (l.take m ++ r).getD k 0 = l.getD k 0 := by
  rw [List.getD_eq_getElem?_getD, List.getElem?_append_left (by rw [List.length_take]; omega), List.getElem?_take, if_pos hk, List.getD_eq_getElem?_getD]
theorem tk_er {l r : List Nat} {m : Nat} (hm : m < l.length) : (l.take (m + 1) ++ r).eraseIdx m = l.take m ++ r := by
  rw [List.eraseIdx_append_of_lt_length (by rw [List.length_take]; omega)]
  congr 1
  rw [List.take_succ_eq_append_getElem hm, List.eraseIdx_append_of_length_le (by rw [List.length_take]; omega)]
  rw [List.length_take, show m - min m l.length = 0 by omega]
  simp
theorem tk_keep {l : List Nat} {m : Nat} {P : Nat → Bool} (hm : m < l.length) (hP : P (l.getD m 0) = true) : l.take (m + 1) ++ (l.drop (m + 1)).filter P = l.take m ++ (l.drop m).filter P := by
  have e : l.getD m 0 = l[m] := by rw [List.getD_eq_getElem?_getD, List.getElem?_eq_getElem hm]; rfl
  rw [e] at hP
  rw [List.drop_eq_getElem_cons hm, List.filter_cons, if_pos hP, List.take_succ_eq_append_getElem hm, List.append_assoc, List.singleton_append]
theorem tk_no {l : List Nat} {m : Nat} {P : Nat → Bool} (hm : m < l.length) (hP : ¬ P (l.getD m 0) = true) : (l.drop (m + 1)).filter P = (l.drop m).filter P := by
  have e : l.getD m 0 = l[m] := by rw [List.getD_eq_getElem?_getD, List.getElem?_eq_getElem hm]; rfl
  rw [e] at hP
  rw [List.drop_eq_getElem_cons hm, List.filter_cons, if_neg hP]
theorem c_raiseBar {to : Int} (hL : cL M t S bar bd mk l) (hlen : l.length ≤ 8) (hto : 0 ≤ to ∧ to ≤ 100) (hb : ∀ x ∈ l, 0 ≤ bd x ∧ bd x ≤ 99) (h : ∀ M', Off (cLn t) M M' → cL M' t S to bd mk (l.filter (fun x => decide (to ≤ bd x))) → Q none M') : zEv Γ 22 [zo 2 t 0, zi (iz to)] M Q := by
  have L0 : cL (zw M 2 t 0 7 (iz to)) t S to bd mk l := by
    obtain ⟨l1, l2, l3, l4, l5, l6, l7⟩ := hL
    exact ⟨(zw_ne (by omega)).trans l1, (zw_ne (by omega)).trans l2, zw_eq, (zw_ne (by omega)).trans l4, fun j hj => (zw_ne (by omega)).trans (l5 j hj), fun k hk => ⟨(zw_ne (by omega)).trans (l6 k hk).1, (zw_ne (by omega)).trans (l6 k hk).2.1, (zw_ne (by omega)).trans (l6 k hk).2.2⟩, fun k hk => (zw_ne (by omega)).trans (l7 k hk)⟩
  refine en_22 (bk_22_0 ?_)
  rw [L0.2.2.2.1, iz1, iz_sub]
  have main : ∀ (m : Nat) (M2 : zM), m ≤ l.length → Off (cLn t) M M2 → cL M2 t S to bd mk (l.take m ++ (l.drop m).filter (fun x => decide (to ≤ bd x))) → zGo Γ 22 Q 12 [some (zo 2 t 0), some (zi (iz to)), some (zi (iz ((m : Int) - 1)))] [] M2 := by
    intro m
    induction m with
    | zero =>
      intro M2 _ o2 L2
      refine bk_22_12 ⟨fun _ => h M2 o2 ?_, fun q => ?_⟩
      · rw [List.take_zero, List.drop_zero, List.nil_append] at L2
        exact L2
      · rw [iz0, iz_lt (by omega) (by omega) (by omega) (by omega)] at q
        omega
    | succ m ih =>
      intro M2 hm o2 L2
      have hflen : ((l.drop (m + 1)).filter (fun x => decide (to ≤ bd x))).length ≤ l.length - (m + 1) := by
        have := List.length_filter_le (fun x => decide (to ≤ bd x)) (l.drop (m + 1))
        rw [List.length_drop] at this
        exact this
      have hcl : (l.take (m + 1) ++ (l.drop (m + 1)).filter (fun x => decide (to ≤ bd x))).length = m + 1 + ((l.drop (m + 1)).filter (fun x => decide (to ≤ bd x))).length := by
        rw [List.length_append, List.length_take]
        omega
      have em : iz (((m + 1 : Nat) : Int) - 1) = iz (m : Int) := congrArg iz (by omega)
      have ebd : M2.1 2 t 3 m = iz (bd (l.getD m 0)) := by
        have := (L2.2.2.2.2.2.1 m (by omega)).2.1
        rw [tk_get (by omega) (by omega)] at this
        exact this
      have hbx := hb (l.getD m 0) (getD_mem (by omega))
      rw [em]
      refine bk_22_12 ⟨fun q => ?_, fun _ => ⟨iz_inN (by omega) (by omega), ?_⟩⟩
      · rw [iz0, iz_lt (by omega) (by omega) (by omega) (by omega)] at q
        omega
      rw [iz_clN (by omega), ebd, iz_le (by omega) (by omega) (by omega) (by omega), iz_m1, iz_add]
      refine ⟨fun q => ?_, fun q => c_dropAt L2 (by omega) (by omega) (fun M3 o3 L3 => ⟨rfl, ?_⟩)⟩
      · refine ih M2 (by omega) o2 ?_
        rw [tk_keep (by omega) (by simpa using q)] at L2
        exact L2
      · refine ih M3 (by omega) (o2.tr o3) ?_
        rw [tk_er (by omega), tk_no (by omega) (by simpa using q)] at L3
        exact L3
  refine main l.length _ (by omega) ((Off.rf M).w _ ⟨rfl, rfl⟩) ?_
  rw [List.take_length, List.drop_length, List.filter_nil, List.append_nil]
  exact L0
theorem c_leastBid (hL : cL M t S bar bd mk l) (hlen : l.length ≤ 8) (hb : ∀ x ∈ l, 0 ≤ bd x ∧ bd x ≤ 99) (h : Q (some (zi (iz (lsB bd l l.length)))) M) : zEv Γ 23 [zo 2 t 0] M Q := by
  have hb' : ∀ k, k < l.length → 0 ≤ bd (l.getD k 0) ∧ bd (l.getD k 0) ≤ 99 := fun k hk => hb _ (getD_mem hk)
  refine en_23 (bk_23_0 ?_)
  refine nloop (G := fun k => zGo Γ 23 Q 5 [some (zo 2 t 0), some (zi (iz (lsB bd l k))), some (zi (iz (k : Int)))] [] M) (n := l.length) ?_ (fun k hk ih => ?_) l.length 0 (by omega)
  · refine bk_23_5 ⟨fun _ => h, fun q => ?_⟩
    rw [hL.2.2.2.1, iz_le (by omega) (by omega) (by omega) (by omega)] at q
    omega
  · have h1 := lsB_b hb' k (by omega)
    have h2 := hb' k hk
    refine bk_23_5 ⟨fun q => ?_, fun _ => ⟨iz_inN (by omega) (by omega), ?_⟩⟩
    · rw [hL.2.2.2.1, iz_le (by omega) (by omega) (by omega) (by omega)] at q
      omega
    · rw [iz_clN (by omega), (hL.2.2.2.2.2.1 k hk).2.1, iz_min (by omega) (by omega) (by omega) (by omega), iz_s]
      exact ih
theorem c_askAt {p : Nat} (hS : SOK S) (hnb : S 0 = (nb : Int)) (hL : cL M t S bar bd mk l) (hlen : l.length ≤ 8) (hr : rng n bd mk) (hl : ∀ x ∈ l, x < n) (hp : p < min l.length nb) (h : Q (some (zi (iz (askV S (sco bd mk l) (bd (l.getD p 0)) (mk (l.getD p 0)) p (p + 1))))) M) : zEv Γ 32 [zo 2 t 0, zi (iz (p : Int))] M Q := by
  have h6 := hS.1
  have hx := hr _ (hl _ (getD_mem (show p < l.length by omega)))
  have hsc := sco_b hr hl
  refine en_32 (bk_32_0 ⟨fun q => ?_, fun _ => c_count hS hnb hL hlen ⟨_, rfl, ?_⟩⟩)
  · rw [iz0, iz_lt (by omega) (by omega) (by omega) (by omega)] at q
    omega
  rw [iz_lt (by omega) (by omega) (by omega) (by omega)]
  refine ⟨fun _ => ⟨iz_inN (by omega) (by omega), iz_inN (by omega) (by omega), ?_⟩, fun q => by omega⟩
  rw [iz_clN (by omega), (hL.2.2.2.2.2.1 p (by omega)).2.1, (hL.2.2.2.2.2.1 p (by omega)).2.2, iz_s]
  exact c_askFor hS hnb hL hsc (by omega) (by omega) hx.1 (by omega) ⟨_, rfl, h⟩
end Z68
