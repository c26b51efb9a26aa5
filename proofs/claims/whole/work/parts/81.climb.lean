/-! prices that climb: the mathematics -/
def wnt (S : SB) (pr : Nat → Int) (i : Nat) : Nat → Int × Nat
  | 0 => (0, 0)
  | j + 1 => if (wnt S pr i j).1 < worS S i j - pr j then (worS S i j - pr j, 2 ^ j) else if worS S i j - pr j = (wnt S pr i j).1 ∧ 0 < worS S i j - pr j then ((wnt S pr i j).1, (wnt S pr i j).2 ||| 2 ^ j) else wnt S pr i j
def wB (S : SB) (pr : Nat → Int) (i : Nat) : Nat := (wnt S pr i (S 0).toNat).2
abbrev sbs (w st : Nat) : Prop := ¬ iz ((w : Nat) : Int) = 0 ∧ (iz ((w : Nat) : Int) &&& (iz ((st : Nat) : Int) ^^^ (-1))) = 0
def crd (S : SB) (pr : Nat → Int) (st : Nat) : Nat → Nat
  | 0 => 0
  | i + 1 => if sbs (wB S pr i) st then crd S pr st i + 1 else crd S pr st i
def crP (S : SB) (pr : Nat → Int) (st : Nat) : Bool := decide (pc st < crd S pr st (S 1).toNat)
def csR (P : Nat → Bool) : Nat → Nat
  | 0 => 0
  | m + 1 => if P (m + 1) = true ∧ (csR P m = 0 ∨ pc (m + 1) < pc (csR P m)) then m + 1 else csR P m
def cs (S : SB) (pr : Nat → Int) : Nat := csR (crP S pr) (2 ^ (S 0).toNat - 1)
def bitN (s j : Nat) : Int := if s.testBit j = true then 1 else 0
def prR (S : SB) : Nat → Nat → Int
  | 0 => fun _ => 0
  | k + 1 => fun j => prR S k j + bitN (cs S (prR S k)) j
def rn (S : SB) : Nat → Nat
  | 0 => 0
  | m + 1 => if cs S (prR S m) = 0 then rn S m else m + 1
def gClimb (S : SB) (y w : Int32) : Int := if (0 ≤ y.toInt ∧ y.toInt ≤ 999) ∧ 0 ≤ w.toInt ∧ w.toInt < S 0 then prR S y.toInt.toNat w.toInt.toNat else -1
def gClimbs (S : SB) : Int := if rn S 1000 ≤ 999 then ((rn S 1000 : Nat) : Int) else -1
set_option maxRecDepth 100000 in
theorem sets_at : ∀ s, s < 64 → 0 < s → ∃ k, k < 63 ∧ sets.getD k 0 = s := by
  have h : ∀ s, s < 64 → 0 < s → sets.idxOf s < 63 ∧ sets.getD (sets.idxOf s) 0 = s := by decide
  exact fun s h1 h2 => ⟨_, h s h1 h2⟩
set_option maxRecDepth 100000 in
theorem sets_lt : ∀ k, k < 63 → 0 < sets.getD k 0 ∧ sets.getD k 0 < 64 := by decide
set_option maxRecDepth 100000 in
theorem sets_s : ∀ k, k < 62 → 64 * pc (sets.getD k 0) + sets.getD k 0 < 64 * pc (sets.getD (k + 1) 0) + sets.getD (k + 1) 0 := by decide
theorem sets_m : ∀ (d a : Nat), a + d < 63 → 64 * pc (sets.getD a 0) + sets.getD a 0 ≤ 64 * pc (sets.getD (a + d) 0) + sets.getD (a + d) 0
  | 0, _, _ => Nat.le_refl _
  | d + 1, a, h => by
    have := sets_m d a (by omega)
    have := sets_s (a + d) (by omega)
    rw [show a + (d + 1) = a + d + 1 by omega]
    omega
theorem csR_ok {P : Nat → Bool} : ∀ m, m < 64 → (csR P m = 0 ∧ ∀ s, 0 < s → s ≤ m → ¬ P s = true) ∨ (0 < csR P m ∧ csR P m ≤ m ∧ P (csR P m) = true ∧ ∀ s, 0 < s → s ≤ m → P s = true → 64 * pc (csR P m) + csR P m ≤ 64 * pc s + s)
  | 0, _ => Or.inl ⟨rfl, fun s h1 h2 => by omega⟩
  | m + 1, hm => by
    have ih := csR_ok (P := P) m (by omega)
    rw [csR]
    by_cases hP : P (m + 1) = true
    · rcases ih with ⟨h0, hn⟩ | ⟨h0, h1, h2, h3⟩
      · rw [if_pos ⟨hP, Or.inl h0⟩]
        refine Or.inr ⟨by omega, by omega, hP, fun s s1 s2 s3 => ?_⟩
        by_cases e : s = m + 1
        · rw [e]
          omega
        · exact absurd s3 (hn s s1 (by omega))
      · by_cases q : pc (m + 1) < pc (csR P m)
        · rw [if_pos ⟨hP, Or.inr q⟩]
          refine Or.inr ⟨by omega, by omega, hP, fun s s1 s2 s3 => ?_⟩
          by_cases e : s = m + 1
          · rw [e]
            omega
          · have := h3 s s1 (by omega) s3
            omega
        · rw [if_neg (by rintro ⟨_, z | z⟩ <;> omega)]
          refine Or.inr ⟨h0, by omega, h2, fun s s1 s2 s3 => ?_⟩
          by_cases e : s = m + 1
          · rw [e]
            omega
          · exact h3 s s1 (by omega) s3
    · rw [if_neg (fun z => hP z.1)]
      rcases ih with ⟨h0, hn⟩ | ⟨h0, h1, h2, h3⟩
      · refine Or.inl ⟨h0, fun s s1 s2 => ?_⟩
        by_cases e : s = m + 1
        · rw [e]
          exact hP
        · exact hn s s1 (by omega)
      · refine Or.inr ⟨h0, by omega, h2, fun s s1 s2 s3 => ?_⟩
        by_cases e : s = m + 1
        · rw [e] at s3
          exact absurd s3 hP
        · exact h3 s s1 (by omega) s3
theorem fnd_least {P : Nat → Bool} : ∀ {q j p : Nat}, fnd P j q = some p → ∀ k, j ≤ k → k < p → ¬ P k = true
  | 0, j, p, h, _, _, _ => by cases h
  | q + 1, j, p, h, k, h1, h2 => by
    rw [fnd] at h
    by_cases z : P j = true
    · rw [if_pos z] at h
      have : j = p := by injection h
      omega
    · rw [if_neg z] at h
      by_cases e : k = j
      · rw [e]
        exact z
      · exact fnd_least h k (by omega) h2
/-- the first of the table that will do is the reference's choice -/
theorem cs_find {P : Nat → Bool} {B : Nat} (hB : 1 ≤ B ∧ B ≤ 64) : (match fnd (fun k => decide (sets.getD k 0 < B) && P (sets.getD k 0)) 0 63 with
    | some k => sets.getD k 0
    | none => 0) = csR P (B - 1) := by
  have ok := csR_ok (P := P) (B - 1) (by omega)
  cases hf : fnd (fun k => decide (sets.getD k 0 < B) && P (sets.getD k 0)) 0 63 with
  | none =>
    rcases ok with ⟨h0, -⟩ | ⟨h0, h1, h2, -⟩
    · exact h0.symm
    · obtain ⟨k, hk, ek⟩ := sets_at (csR P (B - 1)) (by omega) h0
      have := fnd_none _ _ k hf (by omega) (by omega)
      exfalso
      refine this ?_
      rw [ek, h2, decide_eq_true (by omega)]
      rfl
  | some k =>
    obtain ⟨_, k2, k3⟩ := fnd_lt _ _ _ hf
    rw [Bool.and_eq_true, decide_eq_true_iff] at k3
    have hs := sets_lt k (by omega)
    rcases ok with ⟨h0, hn⟩ | ⟨h0, h1, h2, h3⟩
    · exact absurd k3.2 (hn _ hs.1 (by omega))
    · have a1 := h3 _ hs.1 (by omega) k3.2
      obtain ⟨k', hk', ek'⟩ := sets_at (csR P (B - 1)) (by omega) h0
      have a2 : 64 * pc (sets.getD k 0) + sets.getD k 0 ≤ 64 * pc (csR P (B - 1)) + csR P (B - 1) := by
        rw [← ek']
        by_cases q : k ≤ k'
        · have := sets_m (k' - k) k (by omega)
          rw [show k + (k' - k) = k' by omega] at this
          exact this
        · exfalso
          have := fnd_least hf k' (by omega) (by omega)
          refine this ?_
          rw [ek', h2, decide_eq_true (by omega)]
          rfl
      show sets.getD k 0 = csR P (B - 1)
      omega
theorem cs_lt {S : SB} (hS : SOK S) (pr : Nat → Int) : cs S pr < 2 ^ (S 0).toNat ∧ cs S pr < 64 := by
  have h6 := hS.1
  have hp1 : 0 < 2 ^ (S 0).toNat := Nat.two_pow_pos _
  have hp : 2 ^ (S 0).toNat ≤ 2 ^ 6 := Nat.pow_le_pow_right (by omega) (by omega)
  have h64 : 2 ^ 6 = 64 := by decide
  unfold cs
  rcases csR_ok (P := crP S pr) (2 ^ (S 0).toNat - 1) (by omega) with ⟨h0, -⟩ | ⟨-, h1, -⟩ <;> omega
theorem bitN_b (s j : Nat) : 0 ≤ bitN s j ∧ bitN s j ≤ 1 := by
  unfold bitN
  split <;> omega
theorem prR_b {S : SB} : ∀ (k j : Nat), 0 ≤ prR S k j ∧ prR S k j ≤ k
  | 0, _ => ⟨Int.le_refl 0, Int.le_refl 0⟩
  | k + 1, j => by
    have := prR_b (S := S) k j
    have := bitN_b (cs S (prR S k)) j
    show 0 ≤ prR S k j + bitN (cs S (prR S k)) j ∧ prR S k j + bitN (cs S (prR S k)) j ≤ ((k + 1 : Nat) : Int)
    omega
theorem prR_st {S : SB} {k : Nat} (h : cs S (prR S k) = 0) : ∀ d, prR S (k + d) = prR S k
  | 0 => rfl
  | d + 1 => by
    have ih := prR_st h d
    rw [← Nat.add_assoc, prR, ih, h]
    funext j
    unfold bitN
    simp
theorem rn_st {S : SB} {k : Nat} (h : cs S (prR S k) = 0) : ∀ d, rn S (k + d) = rn S k
  | 0 => rfl
  | d + 1 => by
    rw [← Nat.add_assoc, rn, prR_st h d, if_pos h]
    exact rn_st h d
theorem rn_go {S : SB} : ∀ k, (∀ j, j < k → ¬ cs S (prR S j) = 0) → rn S k = k
  | 0, _ => rfl
  | k + 1, h => by rw [rn, if_neg (h k (by omega))]
theorem wnt_b {S : SB} (hS : SOK S) {pr : Nat → Int} (hpr : ∀ j, j < 6 → 0 ≤ pr j ∧ pr j ≤ 1000) {i : Nat} (hi : i < 7) : ∀ j, j ≤ 6 → (0 ≤ (wnt S pr i j).1 ∧ (wnt S pr i j).1 ≤ 10800) ∧ (wnt S pr i j).2 < 2 ^ j
  | 0, _ => by simp [wnt]
  | j + 1, hj => by
    have ih := wnt_b hS hpr hi j (by omega)
    have h1 := worS_b hS hi (show j < 6 by omega)
    have h2 := hpr j (by omega)
    have hpow : 2 ^ (j + 1) = 2 ^ j * 2 := Nat.pow_succ 2 j
    have hp1 : 0 < 2 ^ j := Nat.two_pow_pos _
    rw [wnt]
    split
    · exact ⟨by simp only; omega, by simp only; omega⟩
    · split
      · exact ⟨ih.1, Nat.or_lt_two_pow (by omega) (by omega)⟩
      · exact ⟨ih.1, by omega⟩
theorem wB_lt {S : SB} (hS : SOK S) {pr : Nat → Int} (hpr : ∀ j, j < 6 → 0 ≤ pr j ∧ pr j ≤ 1000) {i : Nat} (hi : i < 7) : wB S pr i < 64 := by
  have h6 := hS.1
  have := (wnt_b hS hpr hi (S 0).toNat (by omega)).2
  have hp : 2 ^ (S 0).toNat ≤ 2 ^ 6 := Nat.pow_le_pow_right (by omega) (by omega)
  have h64 : 2 ^ 6 = 64 := by decide
  unfold wB
  omega
theorem crd_le {S : SB} {pr : Nat → Int} {st : Nat} : ∀ n, crd S pr st n ≤ n
  | 0 => Nat.le_refl 0
  | n + 1 => by
    have := crd_le (S := S) (pr := pr) (st := st) n
    rw [crd]
    split <;> omega
