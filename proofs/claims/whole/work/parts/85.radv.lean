/-! the reference's advance -/
def wqL (y : Int64) : List (List Nat) → List Int → Int
  | x :: r, c :: s => if y = lz ((enL x 0 : Nat) : Int) then c else wqL y r s
  | _, _ => 99
def wq (y : Int64) : Int := wqL y WT [1, 2, 3, 4, 5, 6, 7, 8, 9, 10, 20, 21, 22, 30, 31]
theorem lg_eq {a b : Int64} : (lg_cmp a b = 0) = (a = b) := by
  unfold lg_cmp
  by_cases h : a = b
  · subst h
    rw [if_neg Int64.lt_irrefl, if_pos rfl]
    simp
  · by_cases h1 : a > b
    · rw [if_pos h1]
      simp [h]
    · rw [if_neg h1, if_neg h]
      simp [h]
theorem lz_inj {a b : Int} (h1 : 0 ≤ a ∧ a < 4611686018427387904) (h2 : 0 ≤ b ∧ b < 4611686018427387904) (h : lz a = lz b) : a = b := by
  have e1 : (lz a).toInt = a := Int64.toInt_ofInt_of_le (by omega) (by omega)
  have e2 : (lz b).toInt = b := Int64.toInt_ofInt_of_le (by omega) (by omega)
  rw [← e1, ← e2, h]
theorem wq_gen {l : List Nat} {y : Int64} : ∀ (r : List (List Nat)) (k : Nat), 11 ≤ k → (∀ x ∈ r, y = lz ((enL x 0 : Nat) : Int) ↔ l = x) → wqL y r ((List.range r.length).map (fun i => rwk (k + i))) = if wcF l r k = 3 then 99 else rwk (wcF l r k)
  | [], k, _, _ => rfl
  | x :: r, k, hk, key => by
    have e : (List.range (x :: r).length).map (fun i => rwk (k + i)) = rwk k :: (List.range r.length).map (fun i => rwk (k + 1 + i)) := by
      rw [List.length_cons, List.range_succ_eq_map, List.map_cons, List.map_map]
      congr 1
      apply List.map_congr_left
      intro i _
      show rwk (k + (i + 1)) = rwk (k + 1 + i)
      congr 1
      omega
    rw [e, wqL, wcF]
    by_cases h : l = x
    · rw [if_pos ((key x List.mem_cons_self).mpr h), if_pos h, if_neg (by omega)]
    · rw [if_neg (fun z => h ((key x List.mem_cons_self).mp z)), if_neg h]
      exact wq_gen r (k + 1) (by omega) (fun z hz => key z (List.mem_cons_of_mem _ hz))
theorem wq_code {l : List Nat} (hl : l.length ≤ 6) (hd : ∀ x ∈ l, 1 ≤ x ∧ x < 32) : wq (lz ((enL l 0 : Nat) : Int)) = if wcode l = 3 then 99 else rwk (wcode l) := by
  have hb := enL_b l.length l rfl (fun x hx => (hd x hx).2)
  have hp : 32 ^ l.length ≤ 32 ^ 6 := Nat.pow_le_pow_right (by omega) hl
  have h6 : 32 ^ 6 = 1073741824 := by decide
  have hw : ∀ x ∈ WT, (∀ z ∈ x, 1 ≤ z ∧ z < 32) ∧ enL x 0 < 1073741824 := by decide
  refine wq_gen WT 11 (by omega) (fun x hx => ⟨fun e => ?_, fun e => by rw [e]⟩)
  have h1 := hw x hx
  have := lz_inj (a := ((enL l 0 : Nat) : Int)) (b := ((enL x 0 : Nat) : Int)) (by omega) (by omega) e
  exact enL_inj l.length l x rfl hd h1.1 (by omega)
theorem enL_wl {tp : Nat → Int} {w : Nat} (m : Nat) : enL (wl tp w (m + 1)) 0 = 32 * enL (wl tp w m) 0 + (tp (w + m) - 96).toNat := by rw [wl, enL_app]
section Z85
variable {Γ : zC} {Q : zQ} {M : zM}
theorem r_three {x y z : Int32} (h : Q (some (zl (((((((32 : Int64) * ((x - 96)).toInt64) + (y).toInt64) - (96 : Int64)) * (32 : Int64)) + (z).toInt64) - (96 : Int64)))) M) : zEv Γ 160 [zi x, zi y, zi z] M Q := en_160 (bk_160_0 h)
theorem r_four {x y z w : Int32} (h : Q (some (zl ((((((((((32 : Int64) * ((x - 96)).toInt64) + (y).toInt64) - (96 : Int64)) * (32 : Int64)) + (z).toInt64) - (96 : Int64)) * (32 : Int64)) + (w).toInt64) - (96 : Int64)))) M) : zEv Γ 161 [zi x, zi y, zi z, zi w] M Q := en_161 (bk_161_0 (r_three ⟨_, rfl, h⟩))
theorem r_five {x y z w v : Int32} (h : Q (some (zl (((((((((((((32 : Int64) * ((x - 96)).toInt64) + (y).toInt64) - (96 : Int64)) * (32 : Int64)) + (z).toInt64) - (96 : Int64)) * (32 : Int64)) + (w).toInt64) - (96 : Int64)) * (32 : Int64)) + (v).toInt64) - (96 : Int64)))) M) : zEv Γ 162 [zi x, zi y, zi z, zi w, zi v] M Q := en_162 (bk_162_0 (r_four ⟨_, rfl, h⟩))
theorem wq_1 {y : Int64} {x : List Nat} {r : List (List Nat)} {c : Int} {s : List Int} {k v : Int64} (hk : k = lz ((enL x 0 : Nat) : Int)) (e : lg_cmp y k = 0) : wqL y (x :: r) (c :: s) = c := by
  rw [lg_eq] at e
  rw [wqL, if_pos (by rw [e, hk])]
theorem wq_0 {y : Int64} {x : List Nat} {r : List (List Nat)} {c : Int} {s : List Int} {k : Int64} (hk : k = lz ((enL x 0 : Nat) : Int)) (e : ¬ lg_cmp y k = 0) : wqL y (x :: r) (c :: s) = wqL y r s := by
  rw [lg_eq] at e
  rw [wqL, if_neg (by rw [← hk]; exact e)]
theorem r_wordOf {y : Int64} (h : Q (some (zi (iz (wq y)))) M) : zEv Γ 163 [zl y] M Q := by
  unfold wq WT at h
  refine en_163 (bk_163_0 ?_)
  refine r_five ⟨_, rfl, fun q => ?_, fun q => ?_⟩
  rotate_left
  · rw [wq_1 (v := 0) (by decide) q] at h
    exact h
  rw [wq_0 (by decide) q] at h
  refine r_three ⟨_, rfl, r_three ⟨_, rfl, fun q => ?_, fun q => ?_⟩⟩
  rotate_left
  · rw [wq_1 (v := 0) (by decide) q] at h
    exact h
  rw [wq_0 (by decide) q] at h
  refine r_four ⟨_, rfl, fun q => ?_, fun q => ?_⟩
  rotate_left
  · rw [wq_1 (v := 0) (by decide) q] at h
    exact h
  rw [wq_0 (by decide) q] at h
  refine r_five ⟨_, rfl, fun q => ?_, fun q => ?_⟩
  rotate_left
  · rw [wq_1 (v := 0) (by decide) q] at h
    exact h
  rw [wq_0 (by decide) q] at h
  refine r_five ⟨_, rfl, fun q => ?_, fun q => ?_⟩
  rotate_left
  · rw [wq_1 (v := 0) (by decide) q] at h
    exact h
  rw [wq_0 (by decide) q] at h
  refine r_four ⟨_, rfl, fun q => ?_, fun q => ?_⟩
  rotate_left
  · rw [wq_1 (v := 0) (by decide) q] at h
    exact h
  rw [wq_0 (by decide) q] at h
  refine r_three ⟨_, rfl, r_three ⟨_, rfl, fun q => ?_, fun q => ?_⟩⟩
  rotate_left
  · rw [wq_1 (v := 0) (by decide) q] at h
    exact h
  rw [wq_0 (by decide) q] at h
  refine r_three ⟨_, rfl, fun q => ?_, fun q => ?_⟩
  rotate_left
  · rw [wq_1 (v := 0) (by decide) q] at h
    exact h
  rw [wq_0 (by decide) q] at h
  refine r_three ⟨_, rfl, fun q => ?_, fun q => ?_⟩
  rotate_left
  · rw [wq_1 (v := 0) (by decide) q] at h
    exact h
  rw [wq_0 (by decide) q] at h
  refine r_three ⟨_, rfl, fun q => ?_, fun q => ?_⟩
  rotate_left
  · rw [wq_1 (v := 0) (by decide) q] at h
    exact h
  rw [wq_0 (by decide) q] at h
  refine r_three ⟨_, rfl, fun q => ?_, fun q => ?_⟩
  rotate_left
  · rw [wq_1 (v := 0) (by decide) q] at h
    exact h
  rw [wq_0 (by decide) q] at h
  refine r_four ⟨_, rfl, fun q => ?_, fun q => ?_⟩
  rotate_left
  · rw [wq_1 (v := 0) (by decide) q] at h
    exact h
  rw [wq_0 (by decide) q] at h
  refine r_four ⟨_, rfl, fun q => ?_, fun q => ?_⟩
  rotate_left
  · rw [wq_1 (v := 0) (by decide) q] at h
    exact h
  rw [wq_0 (by decide) q] at h
  refine r_four ⟨_, rfl, fun q => ?_, fun q => ?_⟩
  rotate_left
  · rw [wq_1 (v := 0) (by decide) q] at h
    exact h
  rw [wq_0 (by decide) q] at h
  refine r_four ⟨_, rfl, fun q => ?_, fun q => ?_⟩
  rotate_left
  · rw [wq_1 (v := 0) (by decide) q] at h
    exact h
  rw [wq_0 (by decide) q] at h
  exact h
end Z85
