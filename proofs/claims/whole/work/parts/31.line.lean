/-! THE LINE: who stands where, by bids times marks; the first of equals first -/
def ins (sc : Nat → Int) (i : Nat) : List Nat → List Nat
  | [] => [i]
  | k :: r => if sc i ≤ sc k then k :: ins sc i r else i :: k :: r
/-- of the first n: who isn't out, and bids the bar and more than 0 -/
def lin (bd mk : Nat → Int) (ex : Nat → Bool) (bar : Int) : Nat → List Nat
  | 0 => []
  | i + 1 => if ex i = true ∨ bd i < bar ∨ bd i = 0 then lin bd mk ex bar i else ins (fun k => bd k * mk k) i (lin bd mk ex bar i)
theorem ins_at {sc : Nat → Int} {i : Nat} : ∀ (l : List Nat) (p : Nat), p ≤ l.length → (∀ k, k < p → sc i ≤ sc (l.getD k 0)) → (p < l.length → sc (l.getD p 0) < sc i) → ins sc i l = l.take p ++ i :: l.drop p
  | [], p, h, _, _ => by
    have : p = 0 := by simpa using h
    subst this
    rfl
  | a :: r, 0, _, _, h2 => by
    have := h2 (by simp)
    simp only [ins]
    rw [if_neg (by simpa using this)]
    rfl
  | a :: r, p + 1, h, h1, h2 => by
    simp only [ins]
    rw [if_pos (by simpa using h1 0 (by omega)), ins_at r p (by simpa using h) (fun k hk => by simpa using h1 (k + 1) (by omega)) (fun hp => by simpa using h2 (by simpa using hp))]
    rfl
theorem ins_len {sc : Nat → Int} {i : Nat} : ∀ l : List Nat, (ins sc i l).length = l.length + 1
  | [] => rfl
  | a :: r => by
    simp only [ins]
    split
    · simp [ins_len r]
    · simp
theorem ins_mem {sc : Nat → Int} {i x : Nat} : ∀ l : List Nat, x ∈ ins sc i l ↔ x = i ∨ x ∈ l
  | [] => by simp [ins]
  | a :: r => by
    simp only [ins]
    split
    · simp only [List.mem_cons, ins_mem r]
      constructor
      · rintro (h | h | h)
        · exact Or.inr (Or.inl h)
        · exact Or.inl h
        · exact Or.inr (Or.inr h)
      · rintro (h | h | h)
        · exact Or.inr (Or.inl h)
        · exact Or.inl h
        · exact Or.inr (Or.inr h)
    · simp only [List.mem_cons]
theorem lin_lt {bd mk : Nat → Int} {ex : Nat → Bool} {bar : Int} : ∀ (n x : Nat), x ∈ lin bd mk ex bar n → x < n
  | 0, x, h => by simp [lin] at h
  | n + 1, x, h => by
    simp only [lin] at h
    split at h
    · have := lin_lt n x h; omega
    · rcases (ins_mem _).mp h with h | h
      · omega
      · have := lin_lt n x h; omega
theorem lin_len {bd mk : Nat → Int} {ex : Nat → Bool} {bar : Int} : ∀ n : Nat, (lin bd mk ex bar n).length ≤ n
  | 0 => by simp [lin]
  | n + 1 => by
    have := lin_len (bd := bd) (mk := mk) (ex := ex) (bar := bar) n
    simp only [lin]
    split
    · omega
    · rw [ins_len]; omega
/-- greater scores stand first -/
def dsc (sc : Nat → Int) (l : List Nat) : Prop := l.Pairwise (fun a b => sc b ≤ sc a)
theorem ins_dsc {sc : Nat → Int} {i : Nat} : ∀ l : List Nat, dsc sc l → dsc sc (ins sc i l)
  | [], _ => by simp [ins, dsc]
  | a :: r, h => by
    unfold dsc at h ⊢
    rw [List.pairwise_cons] at h
    simp only [ins]
    split
    · next hle =>
      rw [List.pairwise_cons]
      refine ⟨fun b hb => ?_, ins_dsc r h.2⟩
      rcases (ins_mem _).mp hb with hb | hb
      · rw [hb]; exact hle
      · exact h.1 b hb
    · next hle =>
      rw [List.pairwise_cons]
      refine ⟨fun b hb => ?_, List.pairwise_cons.mpr h⟩
      rcases List.mem_cons.mp hb with hb | hb
      · rw [hb]; omega
      · have := h.1 b hb; omega
theorem lin_dsc {bd mk : Nat → Int} {ex : Nat → Bool} {bar : Int} : ∀ n : Nat, dsc (fun k => bd k * mk k) (lin bd mk ex bar n)
  | 0 => by simp [lin, dsc]
  | n + 1 => by
    simp only [lin]
    split
    · exact lin_dsc n
    · exact ins_dsc _ (lin_dsc n)
theorem dsc_le {sc : Nat → Int} {l : List Nat} (h : dsc sc l) {a b : Nat} (hab : a ≤ b) (hb : b < l.length) : sc (l.getD b 0) ≤ sc (l.getD a 0) := by
  rcases Nat.lt_or_eq_of_le hab with h1 | h1
  · have := List.pairwise_iff_getElem.mp h a b (by omega) hb h1
    simpa [List.getD_eq_getElem?_getD, List.getElem?_eq_getElem hb, List.getElem?_eq_getElem (show a < l.length by omega)] using this
  · rw [h1]; exact Int.le_refl _
theorem lin_getD {bd mk : Nat → Int} {ex : Nat → Bool} {bar : Int} {n k : Nat} (h : k < (lin bd mk ex bar n).length) : (lin bd mk ex bar n).getD k 0 < n := by
  refine lin_lt (bd := bd) (mk := mk) (ex := ex) (bar := bar) n _ ?_
  rw [List.getD_eq_getElem?_getD, List.getElem?_eq_getElem h]
  exact List.getElem_mem h
theorem cut_get {l : List Nat} {p i k : Nat} (hp : p ≤ l.length) : (l.take p ++ i :: l.drop p).getD k 0 = if k < p then l.getD k 0 else if k = p then i else l.getD (k - 1) 0 := by
  simp only [List.getD_eq_getElem?_getD]
  by_cases h1 : k < p
  · rw [if_pos h1, List.getElem?_append_left (by rw [List.length_take]; omega), List.getElem?_take_of_lt h1]
  · rw [if_neg h1, List.getElem?_append_right (by rw [List.length_take]; omega), List.length_take, Nat.min_eq_left hp]
    by_cases h2 : k = p
    · rw [if_pos h2, h2, Nat.sub_self]; rfl
    · rw [if_neg h2, show k - p = (k - 1 - p) + 1 by omega, List.getElem?_cons_succ, List.getElem?_drop, show p + (k - 1 - p) = k - 1 by omega]
/-! what each pays -/
def pas (S : SB) (j : Nat) : Int := if (j : Int) < S 0 then S (4 + j) else 0
def sco (bd mk : Nat → Int) (l : List Nat) (k : Nat) : Int := if k < l.length then bd (l.getD k 0) * mk (l.getD k 0) else 0
/-- of the boards from k on, d of them -/
def hsum (S : SB) (bd mk : Nat → Int) (l : List Nat) : Nat → Nat → Int
  | _, 0 => 0
  | k, d + 1 => (pas S k - pas S (k + 1)) * sco bd mk l (k + 1) + hsum S bd mk l (k + 1) d
def upI (v m : Int) : Int := (v + m - 1) / m
def payS (S : SB) (bd mk : Nat → Int) (bar : Int) (l : List Nat) (j : Nat) : Int :=
  if S 2 = 0 then bd (l.getD j 0) * pas S j
  else if S 2 = 1 then pas S j * max (max bar 1) (upI (sco bd mk l (j + 1)) (mk (l.getD j 0)))
  else max (bar * pas S j) (upI (hsum S bd mk l j ((S 0).toNat - j)) (mk (l.getD j 0)))
