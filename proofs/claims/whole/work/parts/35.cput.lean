theorem iz_min {a b : Int} (h1 : -2147483648 ≤ a) (h2 : a < 2147483648) (h3 : -2147483648 ≤ b) (h4 : b < 2147483648) : (if iz a < iz b then iz a else iz b) = iz (min a b) := by
  by_cases h : a < b
  · rw [if_pos (by rw [iz_lt h1 h2 h3 h4]; exact h)]
    congr 1; omega
  · rw [if_neg (by rw [iz_lt h1 h2 h3 h4]; exact h)]
    congr 1; omega
theorem iz_max {a b : Int} (h1 : -2147483648 ≤ a) (h2 : a < 2147483648) (h3 : -2147483648 ≤ b) (h4 : b < 2147483648) : (if iz a < iz b then iz b else iz a) = iz (max a b) := by
  by_cases h : a < b
  · rw [if_pos (by rw [iz_lt h1 h2 h3 h4]; exact h)]
    congr 1; omega
  · rw [if_neg (by rw [iz_lt h1 h2 h3 h4]; exact h)]
    congr 1; omega
/-- from a down, past those with g -/
def plf (g : Nat → Bool) : Nat → Nat
  | 0 => 0
  | a + 1 => if g a = true then plf g a else a + 1
theorem plf_le {g : Nat → Bool} : ∀ a, plf g a ≤ a
  | 0 => Nat.le_refl _
  | a + 1 => by
    simp only [plf]
    split
    · have := plf_le (g := g) a; omega
    · omega
theorem plf_in {g : Nat → Bool} : ∀ a k, plf g a ≤ k → k < a → g k = true
  | 0, k, _, h => by omega
  | a + 1, k, h1, h2 => by
    simp only [plf] at h1
    split at h1
    · next hg =>
      rcases Nat.lt_or_ge k a with q | q
      · exact plf_in a k h1 q
      · rw [show k = a by omega]; exact hg
    · omega
theorem plf_st {g : Nat → Bool} : ∀ a, 0 < plf g a → g (plf g a - 1) = false
  | 0, h => by simp [plf] at h
  | a + 1, h => by
    simp only [plf] at h ⊢
    split at h
    · next hg =>
      rw [if_pos hg]
      exact plf_st a h
    · next hg =>
      rw [if_neg hg]
      simpa using hg
/-- who is no later than i, with a score s -/
def gLe (bd mk : Nat → Int) (l : List Nat) (i : Nat) (s : Int) (k : Nat) : Bool := decide (bd (l.getD k 0) * mk (l.getD k 0) < s ∨ (bd (l.getD k 0) * mk (l.getD k 0) = s ∧ i ≤ l.getD k 0))
def vF (bd mk : Nat → Int) (f x : Nat) : Int := if f = 2 then (x : Int) else if f = 3 then bd x else if f = 4 then mk x else bd x * mk x
section Z35
variable {Γ : zC} {Q : zQ} {M : zM} {t ts : Nat} {S : SB} {n nb : Nat} {bd mk : Nat → Int} {ex : Nat → Bool} {l : List Nat} {bar : Int}
theorem sco_lt {k : Nat} (h : k < l.length) : sco bd mk l k = bd (l.getD k 0) * mk (l.getD k 0) := by
  unfold sco
  rw [if_pos h]
theorem c_placeFrom {i p0 : Nat} {s : Int} (hL : cL M t S bar bd mk l) (hlen : l.length ≤ 8) (hr : rng n bd mk) (hl : ∀ x ∈ l, x < n) (hn : n ≤ 100) (hi : i < 100) (hp0 : p0 < 100) (hs : 0 ≤ s ∧ s ≤ 1000) (h : Q (some (zi (iz (plf (gLe bd mk l i s) (min p0 l.length) : Nat)))) M) : zEv Γ 25 [zo 2 t 0, zi (iz (p0 : Int)), zi (iz (i : Int)), zi (iz s)] M Q := by
  have loop : ∀ a : Nat, a ≤ l.length → plf (gLe bd mk l i s) a = plf (gLe bd mk l i s) (min p0 l.length) → zGo Γ 25 Q 10 [some (zo 2 t 0), none, some (zi (iz (i : Int))), some (zi (iz s)), some (zi (iz (a : Int))), none] [] M := by
    intro a
    induction a with
    | zero =>
      intro ha he
      refine bk_25_10 ⟨fun _ => ?_, fun q => absurd (by decide) q⟩
      rw [← he] at h
      exact h
    | succ a ih =>
      intro ha he
      have hx := hl _ (getD_mem (show a < l.length by omega))
      have hsc := sco_b hr hl a
      have e1 : iz ((a + 1 : Nat) : Int) - 1 = iz (a : Int) := by rw [iz1, iz_sub]; congr 1; omega
      have e2 : iz ((a + 1 : Nat) : Int) + (-1) = iz (a : Int) := by rw [iz_m1, iz_add]; congr 1; omega
      have stop : gLe bd mk l i s a = false → Q (some (zi (iz ((a + 1 : Nat) : Int)))) M := by
        intro hg
        rw [← he, plf, if_neg (by rw [hg]; decide)] at h
        exact h
      have cont : gLe bd mk l i s a = true → zGo Γ 25 Q 10 [some (zo 2 t 0), none, some (zi (iz (i : Int))), some (zi (iz s)), some (zi (iz (a : Int))), none] [] M := by
        intro hg
        refine ih (by omega) ?_
        rw [← he]
        conv => rhs; rw [plf]
        rw [if_pos hg]
      rw [sco_lt (by omega)] at hsc
      refine bk_25_10 ?_
      rw [e1, e2, iz_clN (by omega), hL.2.2.2.2.2.2 a (by omega), (hL.2.2.2.2.2.1 a (by omega)).1, sco_lt (by omega), iz0, iz_le (by omega) (by omega) (by omega) (by omega), iz_lt (by omega) (by omega) (by omega) (by omega), iz_eq (by omega) (by omega) (by omega) (by omega), iz_le (by omega) (by omega) (by omega) (by omega)]
      refine ⟨fun q => by omega, fun _ => ⟨iz_inN (by omega) (by omega), fun q => stop ?_, fun q1 => ⟨fun q => cont ?_, fun q2 => ⟨iz_inN (by omega) (by omega), fun q => cont ?_, fun q => stop ?_⟩⟩⟩⟩
      · exact decide_eq_false (by omega)
      · exact decide_eq_true (by omega)
      · exact decide_eq_true (by omega)
      · exact decide_eq_false (by omega)
  refine en_25 (bk_25_0 ?_)
  rw [hL.2.2.2.1, iz_min (by omega) (by omega) (by omega) (by omega), show min (p0 : Int) (l.length : Int) = ((min p0 l.length : Nat) : Int) by omega]
  exact loop (min p0 l.length) (by omega) rfl
theorem c_putIn {i : Nat} (hL : cL M t S bar bd mk l) (hlen : l.length ≤ 7) (hs : srt (fun k => bd k * mk k) l) (hr : rng n bd mk) (hl : ∀ x ∈ l, x < n) (hn : n ≤ 100) (hi : i < n) (hni : i ∉ l) (hbar : 0 ≤ bar ∧ bar ≤ 99)
    (hf : bd i < bar ∨ bd i = 0 → Q (some (zi (iz (-1)))) M) (ht : ¬ (bd i < bar ∨ bd i = 0) → ∀ (p : Nat) (M' : zM), Off (cLn t) M M' → p ≤ l.length → ins2 (fun k => bd k * mk k) i l = l.take p ++ i :: l.drop p → cL M' t S bar bd mk (ins2 (fun k => bd k * mk k) i l) → Q (some (zi (iz (p : Int)))) M') : zEv Γ 20 [zo 2 t 0, zi (iz (i : Int)), zi (iz (bd i)), zi (iz (mk i))] M Q := by
  obtain ⟨⟨r1, r2⟩, r3, r4⟩ := hr i hi
  have hpr : 0 ≤ bd i * mk i ∧ bd i * mk i ≤ 99 * 9 := ⟨Int.mul_nonneg r1 (by omega), Int.mul_le_mul r2 r4 (by omega) (by omega)⟩
  refine en_20 (bk_20_0 (c_admits hL ⟨r1, r2⟩ hbar (fun q => ⟨_, rfl, fun _ => hf q, fun q' => absurd rfl q'⟩) (fun q => ⟨_, rfl, fun q' => absurd q' (by decide), fun _ => ?_⟩)))
  rw [hL.2.2.2.1, iz_nat, iz_le (by omega) (by omega) (by omega) (by omega), iz_mul]
  refine ⟨fun _ => ?_, fun q' => absurd (show ((l.length : Nat) : Int) ≤ 7 by omega) q'⟩
  refine c_placeFrom hL (by omega) hr hl hn (by omega) (by omega) (by omega) ⟨_, rfl, ?_⟩
  rw [Nat.min_self]
  have hpl := plf_le (g := gLe bd mk l i (bd i * mk i)) l.length
  have hin := plf_in (g := gLe bd mk l i (bd i * mk i)) l.length
  have hst := plf_st (g := gLe bd mk l i (bd i * mk i)) l.length
  generalize hp : plf (gLe bd mk l i (bd i * mk i)) l.length = p at hpl hin hst ⊢
  have gb : ∀ k, k < l.length → (gLe bd mk l i (bd i * mk i) k = true ↔ bef (fun k => bd k * mk k) i (l.getD k 0)) := by
    intro k hk
    have hne : i ≠ l.getD k 0 := fun e => hni (by rw [e]; exact getD_mem hk)
    unfold gLe bef
    rw [decide_eq_true_iff]
    dsimp only
    constructor <;> intro q5 <;> omega
  have eins : ins2 (fun k => bd k * mk k) i l = l.take p ++ i :: l.drop p := by
    refine ins2_at l p hpl (fun k hk hb => ?_) (fun q5 => (gb p q5).mp (hin p (Nat.le_refl _) q5))
    have h0 := hst (by omega)
    have h1 : ¬ bef (fun k => bd k * mk k) i (l.getD (p - 1) 0) := fun q5 => by
      rw [(gb (p - 1) (by omega)).mpr q5] at h0
      cases h0
    rcases Nat.lt_or_ge k (p - 1) with q5 | q5
    · have h2 := List.pairwise_iff_getElem.mp hs k (p - 1) (by omega) (by omega) q5
      have h3 : bef (fun k => bd k * mk k) (l.getD k 0) (l.getD (p - 1) 0) := by
        simpa [List.getD_eq_getElem?_getD, List.getElem?_eq_getElem (show k < l.length by omega), List.getElem?_eq_getElem (show p - 1 < l.length by omega)] using h2
      apply h1
      unfold bef at hb h3 ⊢
      omega
    · rw [show k = p - 1 by omega] at hb
      exact h1 hb
  -- the rows of the line move up by one, from behind
  have loop : ∀ (d a : Nat) (M1 : zM), p + d = a → a ≤ l.length → Off (cLn t) M M1 → (∀ k, M1.1 2 t 0 k = M.1 2 t 0 k) → (∀ k, M1.1 2 t 1 k = M.1 2 t 1 k) → (∀ f, 2 ≤ f → f ≤ 5 → (∀ k, k < a → M1.1 2 t f k = iz (vF bd mk f (l.getD k 0))) ∧ ∀ k, a ≤ k → k < l.length → M1.1 2 t f (k + 1) = iz (vF bd mk f (l.getD k 0))) → (∀ k, l.length < k → M1.1 2 t 5 k = M.1 2 t 5 k) → zGo Γ 20 Q 39 [some (zo 2 t 0), some (zi (iz (i : Int))), some (zi (iz (bd i))), some (zi (iz (mk i))), some (zi (iz (p : Int))), some (zi (iz (a : Int)))] [] M1 := by
    intro d
    induction d with
    | zero =>
      intro a M1 ha hal ho h0 h1 hv h5
      have hap : a = p := by omega
      subst hap
      refine bk_20_39 ⟨fun _ => ?_, fun q5 => absurd (by rw [iz_le (by omega) (by omega) (by omega) (by omega)]; omega) q5⟩
      have i8 := iz_inN (i := a) (n := 8) (by omega) (by omega)
      refine ⟨i8, i8, i8, iz_inN (by omega) (by omega), ?_⟩
      rw [iz_clN (by omega), iz_mul]
      refine ht q a _ (((((ho.w _ ⟨rfl, rfl⟩).w _ ⟨rfl, rfl⟩).w _ ⟨rfl, rfl⟩).w _ ⟨rfl, rfl⟩).w _ ⟨rfl, rfl⟩) hal eins ?_
      have hlen2 : (ins2 (fun k => bd k * mk k) i l).length = l.length + 1 := ins2_len l
      refine ⟨?_, ?_, ?_, ?_, ?_, ?_, ?_⟩
      · simp only [zw_get]
        simpa [h0] using hL.1
      · simp only [zw_get]
        simpa [h0] using hL.2.1
      · simp only [zw_get]
        simpa [h0] using hL.2.2.1
      · rw [hlen2]
        simp only [zw_get]
        simp [h0, hL.2.2.2.1]
        rw [iz_s]
        congr 1
      · intro j hj
        simp only [zw_get]
        simpa [h1] using hL.2.2.2.2.1 j hj
      · intro k hk
        rw [eins, cut_get hal]
        rw [hlen2] at hk
        simp only [zw_get]
        by_cases c1 : k < a
        · have e2 := (hv 2 (by omega) (by omega)).1 k c1
          have e3 := (hv 3 (by omega) (by omega)).1 k c1
          have e4 := (hv 4 (by omega) (by omega)).1 k c1
          have hka : ¬ k = a := by omega
          rw [if_pos c1]
          simp [hka]
          exact ⟨e2, e3, e4⟩
        · rw [if_neg c1]
          by_cases c2 : k = a
          · rw [if_pos c2]
            simp [c2]
          · rw [if_neg c2]
            have e2 := (hv 2 (by omega) (by omega)).2 (k - 1) (by omega) (by omega)
            have e3 := (hv 3 (by omega) (by omega)).2 (k - 1) (by omega) (by omega)
            have e4 := (hv 4 (by omega) (by omega)).2 (k - 1) (by omega) (by omega)
            rw [show k - 1 + 1 = k by omega] at e2 e3 e4
            simp [c2]
            exact ⟨e2, e3, e4⟩
      · intro k hk
        unfold sco
        rw [hlen2, eins, cut_get hal]
        simp only [zw_get]
        by_cases c1 : k < a
        · have e5 := (hv 5 (by omega) (by omega)).1 k c1
          have hka : ¬ k = a := by omega
          rw [if_pos (show k < l.length + 1 by omega), if_pos c1]
          simp [hka]
          exact e5
        · rw [if_neg c1]
          by_cases c2 : k = a
          · rw [if_pos (show k < l.length + 1 by omega), if_pos c2]
            simp [c2]
          · rw [if_neg c2]
            by_cases c3 : k < l.length + 1
            · have e5 := (hv 5 (by omega) (by omega)).2 (k - 1) (by omega) (by omega)
              rw [show k - 1 + 1 = k by omega] at e5
              rw [if_pos c3]
              simp [c2]
              exact e5
            · rw [if_neg c3]
              have e5 := h5 k (by omega)
              have e6 := hL.2.2.2.2.2.2 k hk
              unfold sco at e6
              rw [if_neg (by omega)] at e6
              simp [c2]
              exact e5.trans e6
    | succ d ih =>
      intro a M1 ha hal ho h0 h1 hv h5
      obtain ⟨a, rfl⟩ : ∃ a', a = a' + 1 := ⟨a - 1, by omega⟩
      have e1 : iz ((a + 1 : Nat) : Int) - 1 = iz (a : Int) := by rw [iz1, iz_sub]; congr 1; omega
      have e2 : iz ((a + 1 : Nat) : Int) + (-1) = iz (a : Int) := by rw [iz_m1, iz_add]; congr 1; omega
      refine bk_20_39 ⟨fun q5 => ?_, fun _ => ?_⟩
      · exfalso
        rw [iz_le (by omega) (by omega) (by omega) (by omega)] at q5
        omega
      · have i8 := iz_inN (i := a) (n := 8) (by omega) (by omega)
        have i9 := iz_inN (i := a + 1) (n := 8) (by omega) (by omega)
        rw [e1, e2, iz_clN (show a < 2147483648 by omega), iz_clN (show a + 1 < 2147483648 by omega)]
        refine ⟨i8, i9, i8, i9, i8, i9, iz_inN (by omega) (by omega), iz_inN (by omega) (by omega), ?_⟩
        refine ih a _ (by omega) (by omega) ((((ho.w _ ⟨rfl, rfl⟩).w _ ⟨rfl, rfl⟩).w _ ⟨rfl, rfl⟩).w _ ⟨rfl, rfl⟩) (fun k => ?_) (fun k => ?_) (fun f hf2 hf5 => ?_) (fun k hk => ?_)
        · simp only [zw_get]
          simpa using h0 k
        · simp only [zw_get]
          simpa using h1 k
        · obtain ⟨v1, v2⟩ := hv f hf2 hf5
          simp only [zw_get]
          constructor
          · intro k hk
            have hka : ¬ k = a + 1 := by omega
            simp [hka]
            exact v1 k (by omega)
          · intro k hk hkl
            by_cases c2 : k = a
            · subst c2
              have w := v1 k (by omega)
              rcases (show f = 2 ∨ f = 3 ∨ f = 4 ∨ f = 5 by omega) with rfl | rfl | rfl | rfl <;> (simp; exact w)
            · have hka : ¬ k + 1 = a + 1 := by omega
              have w := v2 k (by omega) hkl
              simp [c2]
              exact w
        · have hka : ¬ k = a + 1 := by omega
          simp only [zw_get]
          simp [hka]
          exact h5 k hk
  rw [hL.2.2.2.1]
  refine loop (l.length - p) l.length M (by omega) (Nat.le_refl _) (Off.rf M) (fun _ => rfl) (fun _ => rfl) (fun f h2 h5 => ⟨fun k hk => ?_, fun k hk hk2 => by omega⟩) (fun _ _ => rfl)
  obtain ⟨v2, v3, v4⟩ := hL.2.2.2.2.2.1 k hk
  have v5 := hL.2.2.2.2.2.2 k (by omega)
  rw [sco_lt hk] at v5
  rcases (show f = 2 ∨ f = 3 ∨ f = 4 ∨ f = 5 by omega) with rfl | rfl | rfl | rfl
  · exact v2
  · exact v3
  · exact v4
  · exact v5
end Z35
