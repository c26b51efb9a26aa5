/-! the tape as tokens: the mathematics -/
def ck (c : Int) : Nat := if 97 ≤ c ∧ c ≤ 122 then 5 else if 48 ≤ c ∧ c ≤ 57 then 1 else if c = 10 ∨ c = 32 then 4 else if c = 59 then 2 else 3
def kc (tp : Nat → Int) (n p : Nat) : Nat := if p < n then ck (tp p) else 0
def rnT (tp : Nat → Int) (n k : Nat) : Nat → Nat → Nat
  | 0, p => p
  | d + 1, p => if kc tp n p = k then rnT tp n k d (p + 1) else p
def rnF (tp : Nat → Int) (n k p : Nat) : Nat := rnT tp n k (n - p) p
def tkE (tp : Nat → Int) (n w : Nat) : Nat := if kc tp n w = 5 ∨ kc tp n w = 1 then rnF tp n (kc tp n w) w else if kc tp n w = 0 then w else w + 1
def tkP (tp : Nat → Int) (n : Nat) : Nat → Nat
  | 0 => 0
  | k + 1 => tkE tp n (rnF tp n 4 (tkP tp n k))
def tkW (tp : Nat → Int) (n k : Nat) : Nat := rnF tp n 4 (tkP tp n k)
def wl (tp : Nat → Int) (w : Nat) : Nat → List Nat
  | 0 => []
  | m + 1 => wl tp w m ++ [(tp (w + m) - 96).toNat]
def WT : List (List Nat) := [[2, 15, 1, 18, 4], [2, 9, 4, 4, 5, 18], [13, 1, 18, 11], [16, 21, 18, 19, 5], [5, 24, 20, 18, 1], [19, 15, 18, 20], [6, 18, 9, 5, 14, 4], [6, 15, 5], [23, 1, 25], [2, 1, 18], [15, 23, 14], [14, 5, 24, 20], [8, 1, 18, 13], [13, 15, 18, 5], [12, 5, 19, 19]]
def wcF (l : List Nat) : List (List Nat) → Nat → Nat
  | [], _ => 3
  | x :: r, k => if l = x then k else wcF l r (k + 1)
def wcode (l : List Nat) : Nat := wcF l WT 11
def nvT (tp : Nat → Int) (w : Nat) : Nat → Int
  | 0 => 0
  | m + 1 => 10 * nvT tp w m + tp (w + m) - 48
def tkK (tp : Nat → Int) (n k : Nat) : Nat := match kc tp n (tkW tp n k) with
  | 5 => wcode (wl tp (tkW tp n k) (tkP tp n (k + 1) - tkW tp n k))
  | 1 => if 4 < tkP tp n (k + 1) - tkW tp n k then 3 else 1
  | 0 => 0
  | 2 => 2
  | _ => 3
def tkN (tp : Nat → Int) (n k : Nat) : Int := if tkK tp n k = 1 then nvT tp (tkW tp n k) (tkP tp n (k + 1) - tkW tp n k) else 0
def rtk (k : Nat) : Int := if k = 3 then 4 else if 11 ≤ k then 3 else (k : Int)
def rwk (k : Nat) : Int := if k ≤ 20 then (k : Int) - 10 else if k ≤ 23 then (k : Int) - 1 else (k : Int) + 6
def enL : List Nat → Nat → Nat
  | [], a => a
  | x :: r, a => enL r (32 * a + x)
theorem ck_c (c : Int) : ck c = 5 ∨ ck c = 1 ∨ ck c = 4 ∨ ck c = 2 ∨ ck c = 3 := by
  unfold ck
  split
  · omega
  · split
    · omega
    · split
      · omega
      · split <;> omega
theorem kc_0 {tp : Nat → Int} {n p : Nat} : kc tp n p = 0 ↔ n ≤ p := by
  unfold kc
  split
  · have := ck_c (tp p)
    omega
  · omega
theorem rnT_ok {tp : Nat → Int} {n k : Nat} (hk : k ≠ 0) : ∀ (d p : Nat), p + d = n → p ≤ rnT tp n k d p ∧ rnT tp n k d p ≤ n ∧ (∀ i, p ≤ i → i < rnT tp n k d p → kc tp n i = k) ∧ kc tp n (rnT tp n k d p) ≠ k
  | 0, p, h => by
    rw [rnT]
    refine ⟨by omega, by omega, fun i h1 h2 => by omega, ?_⟩
    rw [(kc_0).mpr (by omega)]
    omega
  | d + 1, p, h => by
    rw [rnT]
    by_cases e : kc tp n p = k
    · rw [if_pos e]
      obtain ⟨a, b, c, f⟩ := rnT_ok (tp := tp) (n := n) hk d (p + 1) (by omega)
      refine ⟨by omega, b, fun i h1 h2 => ?_, f⟩
      by_cases z : i = p
      · rw [z]
        exact e
      · exact c i (by omega) h2
    · rw [if_neg e]
      exact ⟨by omega, by omega, fun i h1 h2 => by omega, e⟩
theorem rnF_ok {tp : Nat → Int} {n k p : Nat} (hk : k ≠ 0) (hp : p ≤ n) : p ≤ rnF tp n k p ∧ rnF tp n k p ≤ n ∧ (∀ i, p ≤ i → i < rnF tp n k p → kc tp n i = k) ∧ kc tp n (rnF tp n k p) ≠ k := rnT_ok hk (n - p) p (by omega)
theorem tkE_le {tp : Nat → Int} {n w : Nat} (hw : w ≤ n) : w ≤ tkE tp n w ∧ tkE tp n w ≤ n ∧ (w < n → w < tkE tp n w) := by
  unfold tkE
  by_cases h1 : kc tp n w = 5 ∨ kc tp n w = 1
  · rw [if_pos h1]
    have hk : kc tp n w ≠ 0 := by omega
    obtain ⟨a, b, c, f⟩ := rnF_ok (tp := tp) hk hw
    refine ⟨a, b, fun _ => ?_⟩
    apply Classical.byContradiction
    intro z
    have e : rnF tp n (kc tp n w) w = w := by omega
    rw [e] at f
    exact f rfl
  · rw [if_neg h1]
    by_cases h2 : kc tp n w = 0
    · rw [if_pos h2]
      rw [kc_0] at h2
      omega
    · rw [if_neg h2]
      rw [kc_0] at h2
      omega
theorem tkP_le {tp : Nat → Int} {n : Nat} : ∀ k, tkP tp n k ≤ n
  | 0 => Nat.zero_le _
  | k + 1 => (tkE_le (rnF_ok (by omega) (tkP_le k)).2.1).2.1
theorem tkW_le {tp : Nat → Int} {n k : Nat} : tkP tp n k ≤ tkW tp n k ∧ tkW tp n k ≤ n ∧ tkW tp n k ≤ tkP tp n (k + 1) ∧ kc tp n (tkW tp n k) ≠ 4 := by
  have h := rnF_ok (tp := tp) (k := 4) (by omega) (tkP_le (tp := tp) (n := n) k)
  exact ⟨h.1, h.2.1, (tkE_le h.2.1).1, h.2.2.2⟩
theorem wcF_b {l : List Nat} : ∀ (r : List (List Nat)) (k : Nat), wcF l r k = 3 ∨ (k ≤ wcF l r k ∧ wcF l r k < k + r.length)
  | [], _ => Or.inl rfl
  | x :: r, k => by
    rw [wcF]
    by_cases e : l = x
    · rw [if_pos e]
      exact Or.inr ⟨Nat.le_refl _, by simp⟩
    · rw [if_neg e]
      rcases wcF_b (l := l) r (k + 1) with h | h
      · exact Or.inl h
      · exact Or.inr ⟨by omega, by rw [List.length_cons]; omega⟩
theorem wcode_b (l : List Nat) : wcode l = 3 ∨ (11 ≤ wcode l ∧ wcode l ≤ 25) := by
  rcases wcF_b (l := l) WT 11 with h | h
  · exact Or.inl h
  · refine Or.inr ⟨h.1, ?_⟩
    have : WT.length = 15 := rfl
    unfold wcode
    omega
theorem tkK_b {tp : Nat → Int} {n k : Nat} : tkK tp n k ≤ 3 ∨ (11 ≤ tkK tp n k ∧ tkK tp n k ≤ 25) := by
  unfold tkK
  have := wcode_b (wl tp (tkW tp n k) (tkP tp n (k + 1) - tkW tp n k))
  split
  · omega
  · split <;> omega
  · omega
  · omega
  · omega
theorem kc_c (tp : Nat → Int) (n p : Nat) : kc tp n p = 5 ∨ kc tp n p = 1 ∨ kc tp n p = 0 ∨ kc tp n p = 2 ∨ kc tp n p = 4 ∨ kc tp n p = 3 := by
  unfold kc
  split
  · have := ck_c (tp p)
    omega
  · omega
theorem tkK_5 {tp : Nat → Int} {n k : Nat} (h : kc tp n (tkW tp n k) = 5) : tkK tp n k = wcode (wl tp (tkW tp n k) (tkP tp n (k + 1) - tkW tp n k)) := by
  unfold tkK
  rw [h]
  rfl
theorem tkK_1 {tp : Nat → Int} {n k : Nat} (h : kc tp n (tkW tp n k) = 1) : tkK tp n k = if 4 < tkP tp n (k + 1) - tkW tp n k then 3 else 1 := by
  unfold tkK
  rw [h]
  rfl
theorem tkK_z {tp : Nat → Int} {n k : Nat} (h : kc tp n (tkW tp n k) = 0) : tkK tp n k = 0 := by
  unfold tkK
  rw [h]
  rfl
theorem tkK_2 {tp : Nat → Int} {n k : Nat} (h : kc tp n (tkW tp n k) = 2) : tkK tp n k = 2 := by
  unfold tkK
  rw [h]
  rfl
theorem tkK_3 {tp : Nat → Int} {n k : Nat} (h : kc tp n (tkW tp n k) = 3) : tkK tp n k = 3 := by
  unfold tkK
  rw [h]
  rfl
theorem tkK_0 {tp : Nat → Int} {n k : Nat} : tkK tp n k = 0 ↔ tkW tp n k = n := by
  have hs := tkW_le (tp := tp) (n := n) (k := k)
  have hz := kc_0 (tp := tp) (n := n) (p := tkW tp n k)
  have hw := wcode_b (wl tp (tkW tp n k) (tkP tp n (k + 1) - tkW tp n k))
  rcases kc_c tp n (tkW tp n k) with e | e | e | e | e | e
  · rw [tkK_5 e]
    omega
  · rw [tkK_1 e]
    split <;> omega
  · rw [tkK_z e]
    omega
  · rw [tkK_2 e]
    omega
  · omega
  · rw [tkK_3 e]
    omega
theorem tk_end {tp : Nat → Int} {n k : Nat} (h : tkW tp n k = n) : tkP tp n (k + 1) = n ∧ tkW tp n (k + 1) = n := by
  have hs := tkW_le (tp := tp) (n := n) (k := k)
  have hs1 := tkW_le (tp := tp) (n := n) (k := k + 1)
  have hp := tkP_le (tp := tp) (n := n) (k + 1)
  omega
theorem nvT_b {tp : Nat → Int} {w : Nat} : ∀ m, m ≤ 4 → (∀ i, i < m → 48 ≤ tp (w + i) ∧ tp (w + i) ≤ 57) → 0 ≤ nvT tp w m ∧ nvT tp w m < 10 ^ m
  | 0, _, _ => by rw [nvT]; decide
  | m + 1, hm, h => by
    have ih := nvT_b (tp := tp) (w := w) m (by omega) (fun i hi => h i (by omega))
    have h1 := h m (by omega)
    rw [nvT, Int.pow_succ]
    omega
/-- words of digits 1 .. 31 have one number each -/
theorem enL_app (x : Nat) : ∀ (l : List Nat) (a : Nat), enL (l ++ [x]) a = 32 * enL l a + x
  | [], a => rfl
  | y :: r, a => by
    rw [List.cons_append, enL, enL]
    exact enL_app x r _
theorem enL_inj : ∀ (m : Nat) (l l' : List Nat), l.length = m → (∀ x ∈ l, 1 ≤ x ∧ x < 32) → (∀ x ∈ l', 1 ≤ x ∧ x < 32) → enL l 0 = enL l' 0 → l = l' := by
  intro m
  induction m with
  | zero =>
    intro l l' hl _ h' h
    have e : l = [] := List.eq_nil_of_length_eq_zero hl
    subst e
    rcases List.eq_nil_or_concat l' with e | ⟨r, x, e⟩
    · exact e.symm
    · subst e
      rw [List.concat_eq_append, enL_app] at h
      have := h' x (by simp)
      have : enL [] 0 = 0 := rfl
      omega
  | succ m ih =>
    intro l l' hl hd h' h
    rcases List.eq_nil_or_concat l with e | ⟨r, x, e⟩
    · subst e
      simp at hl
    · subst e
      rw [List.concat_eq_append, enL_app] at h
      have hx := hd x (by simp)
      rcases List.eq_nil_or_concat l' with e | ⟨r', x', e⟩
      · subst e
        have : enL [] 0 = 0 := rfl
        omega
      · subst e
        rw [List.concat_eq_append, enL_app] at h
        have hx' := h' x' (by simp)
        have e1 : x = x' := by omega
        have e2 : r = r' := ih r r' (by simpa using hl) (fun y hy => hd y (by simp [hy])) (fun y hy => h' y (by simp [hy])) (by omega)
        rw [e1, e2]
theorem wl_len {tp : Nat → Int} {w : Nat} : ∀ m, (wl tp w m).length = m
  | 0 => rfl
  | m + 1 => by rw [wl, List.length_append, wl_len m]; rfl
theorem wl_d {tp : Nat → Int} {w : Nat} : ∀ m, (∀ i, i < m → 97 ≤ tp (w + i) ∧ tp (w + i) ≤ 122) → ∀ x ∈ wl tp w m, 1 ≤ x ∧ x < 32
  | 0, _, x, hx => by cases hx
  | m + 1, h, x, hx => by
    rw [wl, List.mem_append] at hx
    rcases hx with hx | hx
    · exact wl_d m (fun i hi => h i (by omega)) x hx
    · have := h m (by omega)
      rw [List.mem_singleton] at hx
      omega
theorem enL_b : ∀ (m : Nat) (l : List Nat), l.length = m → (∀ x ∈ l, x < 32) → enL l 0 < 32 ^ m := by
  intro m
  induction m with
  | zero =>
    intro l hl _
    have e : l = [] := List.eq_nil_of_length_eq_zero hl
    subst e
    decide
  | succ m ih =>
    intro l hl hd
    rcases List.eq_nil_or_concat l with e | ⟨r, x, e⟩
    · subst e
      simp at hl
    · subst e
      rw [List.concat_eq_append, enL_app, Nat.pow_succ]
      have := hd x (by simp)
      have := ih r (by simpa using hl) (fun y hy => hd y (by simp [hy]))
      omega
