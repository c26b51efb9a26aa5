/-! what the class has made so far, and that it stays in bounds -/
def loS (k : Nat) : Int := if k < 24 then 0 else if k < 31 then 1 else if k < 38 then 0 else if k < 80 then -999 else if k < 129 then 0 else if k < 178 then -999 else 0
def hiS (k : Nat) : Int := if k = 0 then 6 else if k = 1 then 7 else if k = 2 then 2 else if k < 24 then 99 else if k < 31 then 9 else if k < 38 then 9999 else if k < 80 then 999 else if k < 87 then 3 else if k < 129 then (if k % 2 = 1 then 99 else 9) else if k < 178 then 999 else if k < 227 then 1 else 9999
def WK (T : SB) : Prop := (∀ k, k < 233 → loS k ≤ T k ∧ T k ≤ hiS k) ∧ (∀ i k : Nat, i < 7 → k < 3 → (k : Int) < T (80 + i) → 1 ≤ T (88 + 2 * (3 * i + k))) ∧ ∀ j, j < 5 → T (5 + j) ≤ T (4 + j) ∨ T 0 ≤ 1 + (j : Int)
theorem lh3 {k : Nat} (h : 3 ≤ k ∧ k < 24) : loS k = 0 ∧ hiS k = 99 := by
  unfold loS hiS
  refine ⟨?_, ?_⟩ <;> (repeat' split) <;> omega
theorem lh24 {k : Nat} (h : 24 ≤ k ∧ k < 31) : loS k = 1 ∧ hiS k = 9 := by
  unfold loS hiS
  refine ⟨?_, ?_⟩ <;> (repeat' split) <;> omega
theorem lh31 {k : Nat} (h : 31 ≤ k ∧ k < 38) : loS k = 0 ∧ hiS k = 9999 := by
  unfold loS hiS
  refine ⟨?_, ?_⟩ <;> (repeat' split) <;> omega
theorem lh38 {k : Nat} (h : 38 ≤ k ∧ k < 80) : loS k = -999 ∧ hiS k = 999 := by
  unfold loS hiS
  refine ⟨?_, ?_⟩ <;> (repeat' split) <;> omega
theorem lh80 {k : Nat} (h : 80 ≤ k ∧ k < 87) : loS k = 0 ∧ hiS k = 3 := by
  unfold loS hiS
  refine ⟨?_, ?_⟩ <;> (repeat' split) <;> omega
theorem lh87 {k : Nat} (h : 87 ≤ k ∧ k < 129 ∧ k % 2 = 1) : loS k = 0 ∧ hiS k = 99 := by
  unfold loS hiS
  refine ⟨?_, ?_⟩ <;> (repeat' split) <;> omega
theorem lh88 {k : Nat} (h : 87 ≤ k ∧ k < 129 ∧ k % 2 = 0) : loS k = 0 ∧ hiS k = 9 := by
  unfold loS hiS
  refine ⟨?_, ?_⟩ <;> (repeat' split) <;> omega
theorem lh129 {k : Nat} (h : 129 ≤ k ∧ k < 178) : loS k = -999 ∧ hiS k = 999 := by
  unfold loS hiS
  refine ⟨?_, ?_⟩ <;> (repeat' split) <;> omega
theorem lh178 {k : Nat} (h : 178 ≤ k ∧ k < 227) : loS k = 0 ∧ hiS k = 1 := by
  unfold loS hiS
  refine ⟨?_, ?_⟩ <;> (repeat' split) <;> omega
theorem lh227 {k : Nat} (h : 227 ≤ k ∧ k < 233) : loS k = 0 ∧ hiS k = 9999 := by
  unfold loS hiS
  refine ⟨?_, ?_⟩ <;> (repeat' split) <;> omega
theorem WK.r {T : SB} (h : WK T) {k : Nat} {a b : Int} (hk : k < 233) (e : loS k = a ∧ hiS k = b) : a ≤ T k ∧ T k ≤ b := by
  have := h.1 k hk
  rw [e.1, e.2] at this
  exact this
theorem WK.sok {T : SB} (h : WK T) (h0 : T 0 ≠ 0) (h1 : T 1 ≠ 0) : SOK T := by
  have t0 : 0 ≤ T 0 ∧ T 0 ≤ 6 := h.r (by omega) ⟨rfl, rfl⟩
  have t1 : 0 ≤ T 1 ∧ T 1 ≤ 7 := h.r (by omega) ⟨rfl, rfl⟩
  refine ⟨by omega, by omega, h.r (by omega) ⟨rfl, rfl⟩, h.r (by omega) ⟨rfl, rfl⟩, fun j hj => h.r (by omega) (lh3 (by omega)), fun j hj => h.r (by omega) (lh3 (by omega)), fun j hj => h.r (by omega) (lh3 (by omega)), fun j hj => h.r (by omega) (lh24 (by omega)), fun j hj => h.r (by omega) (lh31 (by omega)), fun j hj => h.r (by omega) (lh38 (by omega)), fun i hi => ⟨h.r (by omega) (lh80 (by omega)), fun k hk hk3 => h.2.1 i k hi hk3 hk⟩, fun i hi => ⟨h.r (by omega) (lh87 (by omega)), h.r (by omega) (lh88 (by omega))⟩, fun j hj => h.r (by omega) (lh129 (by omega)), fun j hj => h.r (by omega) (lh178 (by omega)), fun j hj => h.r (by omega) (lh227 (by omega)), h.2.2⟩
theorem WK_up {T : SB} (h : WK T) {k : Nat} {v a b : Int} (hk : k ≠ 0 ∧ ¬ (4 ≤ k ∧ k < 10) ∧ ¬ (80 ≤ k ∧ k < 129)) (e : loS k = a ∧ hiS k = b) (hv : a ≤ v ∧ v ≤ b) : WK (upS T k v) := by
  refine ⟨fun j hj => ?_, fun i j h1 h2 h3 => ?_, fun j hj => ?_⟩
  · by_cases q : j = k
    · rw [q, upS_e, e.1, e.2]
      exact hv
    · rw [upS_n q]
      exact h.1 j hj
  · rw [upS_n (by omega)] at h3 ⊢
    exact h.2.1 i j h1 h2 h3
  · rw [upS_n (by omega), upS_n (by omega), upS_n (by omega)]
    exact h.2.2 j hj
theorem WK_board {T : SB} (h : WK T) {b : Nat} {v : Int} (hb : T 0 = (b : Int)) (h6 : b < 6) (hv : 0 ≤ v ∧ v ≤ 99) (hm : 0 < b → v ≤ T (4 + (b - 1))) : WK (upS (upS T (4 + b) v) 0 ((b : Int) + 1)) := by
  refine ⟨fun j hj => ?_, fun i j h1 h2 h3 => ?_, fun j hj => ?_⟩
  · by_cases q : j = 0
    · subst q
      rw [upS_e]
      show 0 ≤ (b : Int) + 1 ∧ (b : Int) + 1 ≤ 6
      omega
    · rw [upS_n q]
      by_cases q2 : j = 4 + b
      · rw [q2, upS_e, (lh3 (k := 4 + b) (by omega)).1, (lh3 (k := 4 + b) (by omega)).2]
        exact hv
      · rw [upS_n q2]
        exact h.1 j hj
  · rw [upS_n (by omega), upS_n (by omega)] at h3 ⊢
    exact h.2.1 i j h1 h2 h3
  · rw [upS_e, upS_n (k := 0) (j := 5 + j) (by omega), upS_n (k := 0) (j := 4 + j) (by omega)]
    by_cases q : j + 1 ≤ b
    · refine Or.inl ?_
      rw [upS_n (k := 4 + b) (j := 4 + j) (by omega)]
      by_cases q2 : j + 1 = b
      · rw [show 5 + j = 4 + b by omega, upS_e]
        have := hm (by omega)
        rw [show 4 + j = 4 + (b - 1) by omega]
        exact this
      · rw [upS_n (by omega)]
        rcases h.2.2 j hj with z | z
        · exact z
        · omega
    · exact Or.inr (by omega)
theorem WK_sort {T : SB} (h : WK T) {a s : Nat} {v c : Int} (ha : a < 7) (hs : T (80 + a) = (s : Int)) (h3 : s < 3) (hv : 0 ≤ v ∧ v ≤ 99) (hc : 1 ≤ c ∧ c ≤ 9) : WK (upS (upS (upS T (87 + 6 * a + 2 * s) v) (88 + 6 * a + 2 * s) c) (80 + a) ((s : Int) + 1)) := by
  refine ⟨fun j hj => ?_, fun i j h1 h2 h3 => ?_, fun j hj => ?_⟩
  · by_cases q : j = 80 + a
    · rw [q, upS_e, (lh80 (k := 80 + a) (by omega)).1, (lh80 (k := 80 + a) (by omega)).2]
      omega
    · rw [upS_n q]
      by_cases q2 : j = 88 + 6 * a + 2 * s
      · rw [q2, upS_e, (lh88 (k := 88 + 6 * a + 2 * s) (by omega)).1, (lh88 (k := 88 + 6 * a + 2 * s) (by omega)).2]
        omega
      · rw [upS_n q2]
        by_cases q3 : j = 87 + 6 * a + 2 * s
        · rw [q3, upS_e, (lh87 (k := 87 + 6 * a + 2 * s) (by omega)).1, (lh87 (k := 87 + 6 * a + 2 * s) (by omega)).2]
          exact hv
        · rw [upS_n q3]
          exact h.1 j hj
  · rw [upS_n (k := 80 + a) (j := 88 + 2 * (3 * i + j)) (by omega)]
    by_cases q2 : 88 + 2 * (3 * i + j) = 88 + 6 * a + 2 * s
    · rw [q2, upS_e]
      exact hc.1
    · rw [upS_n q2, upS_n (by omega)]
      by_cases q : i = a
      · subst q
        rw [upS_e] at h3
        exact h.2.1 i j h1 h2 (by omega)
      · rw [upS_n (by omega), upS_n (by omega), upS_n (by omega)] at h3
        exact h.2.1 i j h1 h2 h3
  · rw [upS_n (by omega), upS_n (by omega), upS_n (by omega), upS_n (by omega), upS_n (by omega), upS_n (by omega), upS_n (by omega), upS_n (by omega), upS_n (by omega)]
    exact h.2.2 j hj
theorem cS_w1 {M : zM} {t f i k F j B : Nat} {v : Int} {T : SB} (h : M.1 7 t F j = iz (T B)) (he : (F = f ∧ j = i) ↔ B = k) : (zw M 7 t f i (iz v)).1 7 t F j = iz (upS T k v B) := by
  by_cases q : F = f ∧ j = i
  · rw [he.mp q, upS_e, q.1, q.2]
    exact zw_eq
  · rw [upS_n (fun z => q (he.mpr z)), zw_ne (fun z => q ⟨z.2.2.1, z.2.2.2⟩)]
    exact h
theorem cS_w {M : zM} {t f i k : Nat} {v : Int} {T : SB} (h : cS M t T) (hf : (f = 0 ∧ i < 4 ∧ k = i) ∨ (f = 5 ∧ i < 6 ∧ k = 4 + i) ∨ (f = 7 ∧ i < 7 ∧ k = 10 + i) ∨ (f = 8 ∧ i < 7 ∧ k = 17 + i) ∨ (f = 9 ∧ i < 7 ∧ k = 24 + i) ∨ (f = 10 ∧ i < 7 ∧ k = 31 + i) ∨ (f = 14 ∧ i < 42 ∧ k = 38 + i) ∨ (f = 15 ∧ i < 49 ∧ k = 129 + i) ∨ (f = 16 ∧ i < 49 ∧ k = 178 + i)) : cS (zw M 7 t f i (iz v)) t (upS T k v) := by
  obtain ⟨h1, h2, h3, h4, h5, h6, h7, h8, h9, h10, h11, h12, h13⟩ := h
  refine ⟨fun j hj => cS_w1 (h1 j hj) (by omega), fun j hj => cS_w1 (h2 j hj) (by omega), fun j hj => cS_w1 (h3 j hj) (by omega), fun j hj => cS_w1 (h4 j hj) (by omega), fun j hj => cS_w1 (h5 j hj) (by omega), fun j hj => cS_w1 (h6 j hj) (by omega), fun j hj => cS_w1 (h7 j hj) (by omega), fun j hj => cS_w1 (h8 j hj) (by omega), fun j hj q => cS_w1 (h9 j hj ?_) (by omega), fun j hj q => cS_w1 (h10 j hj ?_) (by omega), fun j hj => cS_w1 (h11 j hj) (by omega), fun j hj => cS_w1 (h12 j hj) (by omega), fun j hj => cS_w1 (h13 j hj) (by omega)⟩
  · rw [upS_n (by omega)] at q
    exact q
  · rw [upS_n (by omega)] at q
    exact q
theorem cS_sort {M : zM} {t a s : Nat} {v c : Int} {T : SB} (h : cS M t T) (ha : a < 7) (hs : T (80 + a) = (s : Int)) (h3 : s < 3) : cS (zw (zw (zw M 7 t 12 (3 * a + s) (iz v)) 7 t 13 (3 * a + s) (iz c)) 7 t 11 a (iz ((s : Int) + 1))) t (upS (upS (upS T (87 + 6 * a + 2 * s) v) (88 + 6 * a + 2 * s) c) (80 + a) ((s : Int) + 1)) := by
  obtain ⟨h1, h2, h3', h4, h5, h6, h7, h8, h9, h10, h11, h12, h13⟩ := h
  refine ⟨fun j hj => cS_w1 (cS_w1 (cS_w1 (h1 j hj) (by omega)) (by omega)) (by omega), fun j hj => cS_w1 (cS_w1 (cS_w1 (h2 j hj) (by omega)) (by omega)) (by omega), fun j hj => cS_w1 (cS_w1 (cS_w1 (h3' j hj) (by omega)) (by omega)) (by omega), fun j hj => cS_w1 (cS_w1 (cS_w1 (h4 j hj) (by omega)) (by omega)) (by omega), fun j hj => cS_w1 (cS_w1 (cS_w1 (h5 j hj) (by omega)) (by omega)) (by omega), fun j hj => cS_w1 (cS_w1 (cS_w1 (h6 j hj) (by omega)) (by omega)) (by omega), fun j hj => cS_w1 (cS_w1 (cS_w1 (h7 j hj) (by omega)) (by omega)) (by omega), fun j hj => cS_w1 (cS_w1 (cS_w1 (h8 j hj) (by omega)) (by omega)) (by omega), fun j hj q => ?_, fun j hj q => ?_, fun j hj => cS_w1 (cS_w1 (cS_w1 (h11 j hj) (by omega)) (by omega)) (by omega), fun j hj => cS_w1 (cS_w1 (cS_w1 (h12 j hj) (by omega)) (by omega)) (by omega), fun j hj => cS_w1 (cS_w1 (cS_w1 (h13 j hj) (by omega)) (by omega)) (by omega)⟩
  · by_cases e : j = 3 * a + s
    · subst e
      rw [zw_ne (by omega), zw_ne (by omega), zw_eq, upS_n (by omega), upS_n (by omega), show 87 + 2 * (3 * a + s) = 87 + 6 * a + 2 * s by omega, upS_e]
    · refine cS_w1 (cS_w1 (cS_w1 (h9 j hj ?_) (by omega)) (by omega)) (by omega)
      by_cases e2 : 80 + j / 3 = 80 + a
      · rw [e2, upS_e] at q
        rw [e2, hs]
        omega
      · rw [upS_n e2, upS_n (by omega), upS_n (by omega)] at q
        exact q
  · by_cases e : j = 3 * a + s
    · subst e
      rw [zw_ne (by omega), zw_eq, upS_n (by omega), show 88 + 2 * (3 * a + s) = 88 + 6 * a + 2 * s by omega, upS_e]
    · refine cS_w1 (cS_w1 (cS_w1 (h10 j hj ?_) (by omega)) (by omega)) (by omega)
      by_cases e2 : 80 + j / 3 = 80 + a
      · rw [e2, upS_e] at q
        rw [e2, hs]
        omega
      · rw [upS_n e2, upS_n (by omega), upS_n (by omega)] at q
        exact q
