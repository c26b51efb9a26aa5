/-! rows of sorts -/
def prodTo (f : Nat → Int) : Nat → Int
  | 0 => 1
  | n + 1 => prodTo f n * f n
def Bs (S : SB) (e : Int) (i : Nat) : Nat := if (i : Int) = e then 1 else max 1 (S (80 + i)).toNat
def upN (p : Nat → Nat) (i k : Nat) : Nat → Nat := fun j => if j = i then k else p j
def nB (B : Nat → Nat) : Nat → Nat
  | 0 => 1
  | m + 1 => nB B m * B m
def dL (B : Nat → Nat) : Nat → Nat → Nat → Nat
  | 0, _ => fun _ => 0
  | m + 1, ρ => upN (dL B m (ρ / B m)) m (ρ % B m)
def dF (B : Nat → Nat) (p : Nat → Nat) (m ρ : Nat) : Nat → Nat := fun i => if i < m then (ρ / nB B i) % B i else p i
def sm (B : Nat → Nat) (F : (Nat → Nat) → Int) (i : Nat) : (Nat → Nat) → Int := fun p => sumTo (fun k => F (upN p i k)) (B i)
def sms (B : Nat → Nat) (F : (Nat → Nat) → Int) : Nat → (Nat → Nat) → Int
  | 0 => F
  | m + 1 => sm B (sms B F m) m
def tots (B : Nat → Nat) : Nat → ((Nat → Nat) → Int) → (Nat → Nat) → Int
  | 0, F => F
  | m + 1, F => tots B m (sm B F m)
theorem sumTo_sum {f g : Nat → Int} : ∀ n, sumTo (fun k => f k + g k) n = sumTo f n + sumTo g n
  | 0 => rfl
  | n + 1 => by
    rw [sumTo, sumTo, sumTo, sumTo_sum n]
    omega
theorem sumTo_zero : ∀ n, sumTo (fun _ => 0) n = 0
  | 0 => rfl
  | n + 1 => by rw [sumTo, sumTo_zero n]; rfl
theorem sumTo_comm {f : Nat → Nat → Int} {n : Nat} : ∀ m, sumTo (fun k => sumTo (f k) n) m = sumTo (fun l => sumTo (fun k => f k l) m) n
  | 0 => (sumTo_zero n).symm
  | m + 1 => by
    rw [sumTo, sumTo_comm m, ← sumTo_sum]
    rfl
theorem sumTo_mul {f : Nat → Int} {b : Nat} : ∀ a, sumTo f (a * b) = sumTo (fun k => sumTo (fun l => f (k * b + l)) b) a
  | 0 => by rw [Nat.zero_mul]; rfl
  | a + 1 => by rw [Nat.add_mul, Nat.one_mul, sumTo_add, sumTo_mul a, sumTo]
theorem upN_comm {p : Nat → Nat} {i j k l : Nat} (h : i ≠ j) : upN (upN p j k) i l = upN (upN p i l) j k := by
  funext x
  unfold upN
  by_cases h1 : x = i
  · rw [if_pos h1, if_neg (by omega), if_pos h1]
  · rw [if_neg h1]
    by_cases h2 : x = j
    · rw [if_pos h2, if_pos h2]
    · rw [if_neg h2, if_neg h2, if_neg h1]
theorem sm_comm {B : Nat → Nat} {F : (Nat → Nat) → Int} {i j : Nat} (h : i ≠ j) : sm B (sm B F i) j = sm B (sm B F j) i := by
  funext p
  unfold sm
  rw [sumTo_comm]
  refine sumTo_congr _ (fun l _ => sumTo_congr _ (fun k _ => ?_))
  rw [upN_comm h]
theorem sms_comm {B : Nat → Nat} {F : (Nat → Nat) → Int} {j : Nat} : ∀ m, m ≤ j → sms B (sm B F j) m = sm B (sms B F m) j
  | 0, _ => rfl
  | m + 1, h => by
    rw [sms, sms_comm m (by omega), sm_comm (by omega)]
    rfl
theorem tots_sms {B : Nat → Nat} : ∀ (m : Nat) (F : (Nat → Nat) → Int), tots B m F = sms B F m
  | 0, _ => rfl
  | m + 1, F => by
    rw [tots, tots_sms m, sms_comm m (by omega)]
    rfl
theorem sum_dL {B : Nat → Nat} (hB : ∀ i, 0 < B i) : ∀ (m : Nat) (F : (Nat → Nat) → Int), sumTo (fun ρ => F (dL B m ρ)) (nB B m) = tots B m F (fun _ => 0)
  | 0, F => by
    show sumTo _ 1 = _
    rw [sumTo, sumTo]
    simp only [Int.zero_add]
    rfl
  | m + 1, F => by
    rw [nB, sumTo_mul, tots, ← sum_dL hB m]
    refine sumTo_congr _ (fun a _ => ?_)
    unfold sm
    refine sumTo_congr _ (fun k hk => ?_)
    rw [dL, Nat.add_comm, Nat.add_mul_div_right _ _ (hB m), Nat.div_eq_of_lt hk, Nat.zero_add, Nat.add_mul_mod_self_right, Nat.mod_eq_of_lt hk]
theorem nB_pos {B : Nat → Nat} (hB : ∀ i, 0 < B i) : ∀ m, 0 < nB B m
  | 0 => Nat.one_pos
  | m + 1 => Nat.mul_pos (nB_pos hB m) (hB m)
theorem nB_dvd {B : Nat → Nat} {i : Nat} : ∀ m, i < m → ∃ c, nB B m = nB B i * (B i * c)
  | 0, h => by omega
  | m + 1, h => by
    by_cases e : i = m
    · subst e
      exact ⟨1, by rw [nB, Nat.mul_one]⟩
    · obtain ⟨c, hc⟩ := nB_dvd (B := B) (i := i) m (by omega)
      exact ⟨c * B m, by rw [nB, hc]; simp only [Nat.mul_assoc]⟩
theorem sum_dF {B : Nat → Nat} (hB : ∀ i, 0 < B i) {F : (Nat → Nat) → Int} : ∀ (m : Nat) (p : Nat → Nat), sumTo (fun ρ => F (dF B p m ρ)) (nB B m) = sms B F m p
  | 0, p => by
    show sumTo _ 1 = _
    rw [sumTo, sumTo]
    simp only [Int.zero_add]
    show F (dF B p 0 0) = F p
    congr 1
  | m + 1, p => by
    rw [nB, Nat.mul_comm, sumTo_mul, sms]
    unfold sm
    refine sumTo_congr _ (fun k hk => ?_)
    rw [← sum_dF hB m]
    refine sumTo_congr _ (fun ρ hρ => ?_)
    congr 1
    funext i
    unfold dF upN
    have hp := nB_pos hB i
    by_cases h1 : i < m
    · rw [if_pos (by omega), if_pos h1]
      obtain ⟨c, hc⟩ := nB_dvd (B := B) m h1
      rw [hc, show k * (nB B i * (B i * c)) + ρ = ρ + nB B i * (B i * (k * c)) by
        rw [Nat.add_comm]
        congr 1
        rw [Nat.mul_left_comm, Nat.mul_left_comm k], Nat.add_mul_div_left _ _ hp, Nat.add_mul_mod_self_left]
    · rw [if_neg h1]
      by_cases h2 : i = m
      · subst h2
        rw [if_pos (by omega), if_pos rfl, Nat.add_comm, Nat.add_mul_div_right _ _ hp, Nat.div_eq_of_lt hρ, Nat.zero_add, Nat.mod_eq_of_lt hk]
      · rw [if_neg (by omega), if_neg h2]
/-- the sum over all rows, in either order -/
theorem sum_rows {B : Nat → Nat} (hB : ∀ i, 0 < B i) (m : Nat) (F : (Nat → Nat) → Int) : sumTo (fun ρ => F (dL B m ρ)) (nB B m) = sumTo (fun ρ => F (dF B (fun _ => 0) m ρ)) (nB B m) := by
  rw [sum_dL hB, sum_dF hB, tots_sms]
theorem dL_out {B : Nat → Nat} : ∀ (m ρ i : Nat), m ≤ i → dL B m ρ i = 0
  | 0, _, _, _ => rfl
  | m + 1, ρ, i, h => by
    rw [dL]
    unfold upN
    rw [if_neg (by omega)]
    exact dL_out m _ i (by omega)
theorem dL_lt {B : Nat → Nat} (hB : ∀ i, 0 < B i) : ∀ (m ρ i : Nat), dL B m ρ i < B i
  | 0, _, i => hB i
  | m + 1, ρ, i => by
    rw [dL]
    unfold upN
    by_cases h : i = m
    · rw [if_pos h, h]
      exact Nat.mod_lt _ (hB m)
    · rw [if_neg h]
      exact dL_lt hB m _ i
theorem dL_cl {B : Nat → Nat} {m ρ : Nat} : upN (dL B (m + 1) ρ) m 0 = dL B m (ρ / B m) := by
  rw [dL]
  funext i
  unfold upN
  by_cases h : i = m
  · rw [if_pos h, dL_out _ _ _ (by omega)]
  · rw [if_neg h, if_neg h]
theorem Bs_pos {S : SB} {e : Int} (i : Nat) : 0 < Bs S e i := by
  unfold Bs
  split <;> omega
theorem Bs_le {S : SB} (hS : SOK S) {e : Int} {i : Nat} (hi : i < 7) : Bs S e i ≤ 3 := by
  have := (hS.2.2.2.2.2.2.2.2.2.2.1 i hi).1
  unfold Bs
  split <;> omega
theorem nB_le {S : SB} (hS : SOK S) {e : Int} : ∀ m, m ≤ 7 → nB (Bs S e) m ≤ 3 ^ m
  | 0, _ => Nat.le_refl 1
  | m + 1, h => by
    rw [nB, Nat.pow_succ]
    exact Nat.mul_le_mul (nB_le hS m (by omega)) (Bs_le hS (by omega))
theorem nB_2187 {S : SB} (hS : SOK S) {e : Int} : nB (Bs S e) (S 1).toNat ≤ 2187 := by
  have h7 := hS.2.1
  have h1 := nB_le hS (e := e) (S 1).toNat (by omega)
  have h2 : 3 ^ (S 1).toNat ≤ 3 ^ 7 := Nat.pow_le_pow_right (by omega) (by omega)
  have h3 : 3 ^ 7 = 2187 := by decide
  omega
