theorem SOK_up {S : SB} (h : SOK S) {k : Nat} {v : Int} (hk : (k = 2 ∧ 0 ≤ v ∧ v ≤ 2) ∨ (k = 3 ∧ 0 ≤ v ∧ v ≤ 99) ∨ (17 ≤ k ∧ k < 24 ∧ 0 ≤ v ∧ v ≤ 99) ∨ (227 ≤ k ∧ k < 233 ∧ 0 ≤ v ∧ v ≤ 9999)) : SOK (upS S k v) := by
  obtain ⟨h1, h2, h3, h4, h5, h6, h7, h8, h9, h10, h11, h12, h13, h14, h15, h16⟩ := h
  have ne : ∀ j, j ≠ k → upS S k v j = S j := fun j hj => by unfold upS; rw [if_neg hj]
  have eq : upS S k v k = v := by unfold upS; rw [if_pos rfl]
  refine ⟨?_, ?_, ?_, ?_, fun j hj => ?_, fun i hi => ?_, fun i hi => ?_, fun i hi => ?_, fun i hi => ?_, fun i hi => ?_, fun i hi => ?_, fun i hi => ?_, fun i hi => ?_, fun i hi => ?_, fun j hj => ?_, fun j hj => ?_⟩
  · rw [ne 0 (by omega)]; exact h1
  · rw [ne 1 (by omega)]; exact h2
  · by_cases e : 2 = k
    · subst e; rw [eq]; omega
    · rw [ne 2 e]; exact h3
  · by_cases e : 3 = k
    · subst e; rw [eq]; omega
    · rw [ne 3 e]; exact h4
  · rw [ne _ (by omega)]; exact h5 j hj
  · rw [ne _ (by omega)]; exact h6 i hi
  · by_cases e : 17 + i = k
    · rw [e, eq]; omega
    · rw [ne _ e]; exact h7 i hi
  · rw [ne _ (by omega)]; exact h8 i hi
  · rw [ne _ (by omega)]; exact h9 i hi
  · rw [ne _ (by omega)]; exact h10 i hi
  · refine ⟨by rw [ne _ (by omega)]; exact (h11 i hi).1, fun k q1 q2 => ?_⟩
    rw [ne _ (by omega)] at q1 ⊢
    exact (h11 i hi).2 k q1 q2
  · rw [ne _ (by omega), ne _ (by omega)]; exact h12 i hi
  · rw [ne _ (by omega)]; exact h13 i hi
  · rw [ne _ (by omega)]; exact h14 i hi
  · by_cases e : 227 + j = k
    · rw [e, eq]; omega
    · rw [ne _ e]; exact h15 j hj
  · rw [ne _ (by omega), ne _ (by omega), ne 0 (by omega)]; exact h16 j hj
theorem rH_up {M : zM} {b : Nat} {S : SB} (h : rH M b S) (k : Nat) (v : Int) : rH (zw M 10 0 1 (b + k) (iz v)) b (upS S k v) := fun j hj => by
  rw [zw_get]
  unfold upS
  by_cases e : j = k
  · rw [if_pos (by omega), if_pos e]
  · rw [if_neg (by omega), if_neg e]
    exact h j hj
/-- a place of the class's sale, and its place in the block -/
def sPl (f i : Nat) : Nat := match f with
  | 0 => i
  | 6 => 227 + i
  | _ => 17 + i
theorem cS_up {M : zM} {t : Nat} {S : SB} (h : cS M t S) {f i : Nat} (hf : (f = 0 ∧ (i = 2 ∨ i = 3)) ∨ (f = 6 ∧ i < 6) ∨ (f = 8 ∧ i < 7)) (v : Int) : cS (zw M 7 t f i (iz v)) t (upS S (sPl f i) v) := by
  obtain ⟨h1, h2, h3, h4, h5, h6, h7, h8, h9, h10, h11, h12, h13⟩ := h
  have ne : ∀ j k, j ≠ k → upS S k v j = S j := fun j k hj => by unfold upS; rw [if_neg hj]
  have eq : ∀ k, upS S k v k = v := fun k => by unfold upS; rw [if_pos rfl]
  rcases hf with ⟨rfl, hi⟩ | ⟨rfl, hi⟩ | ⟨rfl, hi⟩ <;> simp only [sPl]
  · refine ⟨fun k hk => ?_, fun j hj => ?_, fun j hj => ?_, fun j hj => ?_, fun j hj => ?_, fun j hj => ?_, fun j hj => ?_, fun j hj => ?_, fun j hj => (fun q => ?_), fun j hj => (fun q => ?_), fun j hj => ?_, fun j hj => ?_, fun j hj => ?_⟩
    · rw [zw_get]
      by_cases e : k = i
      · rw [if_pos (by omega), e, eq]
      · rw [if_neg (by omega), ne _ _ e]; exact h1 k hk
    all_goals rw [zw_get, if_neg (by omega), ne _ _ (by omega)]
    · exact h2 j hj
    · exact h3 j hj
    · exact h4 j hj
    · exact h5 j hj
    · exact h6 j hj
    · exact h7 j hj
    · exact h8 j hj
    · exact h9 j hj (by rw [ne _ _ (by omega)] at q; exact q)
    · exact h10 j hj (by rw [ne _ _ (by omega)] at q; exact q)
    · exact h11 j hj
    · exact h12 j hj
    · exact h13 j hj
  · refine ⟨fun k hk => ?_, fun j hj => ?_, fun j hj => ?_, fun j hj => ?_, fun j hj => ?_, fun j hj => ?_, fun j hj => ?_, fun j hj => ?_, fun j hj => (fun q => ?_), fun j hj => (fun q => ?_), fun j hj => ?_, fun j hj => ?_, fun j hj => ?_⟩
    · rw [zw_get, if_neg (by omega), ne _ _ (by omega)]; exact h1 k hk
    · rw [zw_get, if_neg (by omega), ne _ _ (by omega)]; exact h2 j hj
    · rw [zw_get]
      by_cases e : j = i
      · rw [if_pos (by omega), e, eq]
      · rw [if_neg (by omega), ne _ _ (by omega)]; exact h3 j hj
    all_goals rw [zw_get, if_neg (by omega), ne _ _ (by omega)]
    · exact h4 j hj
    · exact h5 j hj
    · exact h6 j hj
    · exact h7 j hj
    · exact h8 j hj
    · exact h9 j hj (by rw [ne _ _ (by omega)] at q; exact q)
    · exact h10 j hj (by rw [ne _ _ (by omega)] at q; exact q)
    · exact h11 j hj
    · exact h12 j hj
    · exact h13 j hj
  · refine ⟨fun k hk => ?_, fun j hj => ?_, fun j hj => ?_, fun j hj => ?_, fun j hj => ?_, fun j hj => ?_, fun j hj => ?_, fun j hj => ?_, fun j hj => (fun q => ?_), fun j hj => (fun q => ?_), fun j hj => ?_, fun j hj => ?_, fun j hj => ?_⟩
    · rw [zw_get, if_neg (by omega), ne _ _ (by omega)]; exact h1 k hk
    · rw [zw_get, if_neg (by omega), ne _ _ (by omega)]; exact h2 j hj
    · rw [zw_get, if_neg (by omega), ne _ _ (by omega)]; exact h3 j hj
    · rw [zw_get, if_neg (by omega), ne _ _ (by omega)]; exact h4 j hj
    · rw [zw_get]
      by_cases e : j = i
      · rw [if_pos (by omega), e, eq]
      · rw [if_neg (by omega), ne _ _ (by omega)]; exact h5 j hj
    all_goals rw [zw_get, if_neg (by omega), ne _ _ (by omega)]
    · exact h6 j hj
    · exact h7 j hj
    · exact h8 j hj
    · exact h9 j hj (by rw [ne _ _ (by omega)] at q; exact q)
    · exact h10 j hj (by rw [ne _ _ (by omega)] at q; exact q)
    · exact h11 j hj
    · exact h12 j hj
    · exact h13 j hj
/-- one sale of now has changed -/
theorem sR.sale {M M' : zM} {cnt len s : Nat} {SS : Nat → SB} {T : SB} (h : sR M 0 cnt len SS) (hs : s < cnt) (h8 : ∀ f i, M'.1 8 0 f i = M.1 8 0 f i) (h7 : ∀ t f i, t ≠ s → t < 3 → M'.1 7 t f i = M.1 7 t f i) (h10 : ∀ i, i < 1290 → (i < 510 + 260 * s ∨ 510 + 260 * s + 240 ≤ i) → M'.1 10 0 1 i = M.1 10 0 1 i) (hc : cS M' s T) (hr : rH M' (510 + 260 * s) T) (hT : SOK T) : sR M' 0 cnt len (upSS SS s T) := by
  obtain ⟨⟨a1, a2, a3⟩, ⟨b1, b2, b3⟩, c1, c2, c3, c4, c5⟩ := h
  refine ⟨⟨(h8 _ _).trans a1, (h10 _ (by omega) (by omega)).trans a2, a3⟩, ⟨(h8 _ _).trans b1, (h10 _ (by omega) (by omega)).trans b2, b3⟩, ?_, ?_, fun i hi => ?_, fun i hi => ?_, fun s' hs' => ?_⟩
  · rw [h10 _ (by omega) (by omega), h8]; exact c1
  · rw [h10 _ (by omega) (by omega), h8]; exact c2
  · rw [h10 _ (by omega) (by omega), h8]; exact c3 i hi
  · rw [h8]; exact c4 i hi
  · unfold upSS
    rw [show 3 * 0 + s' = s' by omega, show 1290 * 0 + 510 + 260 * s' = 510 + 260 * s' by omega]
    by_cases e : s' = s
    · subst e
      rw [if_pos rfl]
      exact ⟨hc, hr, hT⟩
    · rw [if_neg e]
      obtain ⟨d1, d2, d3⟩ := c5 s' hs'
      rw [show 3 * 0 + s' = s' by omega] at d1
      rw [show 1290 * 0 + 510 + 260 * s' = 510 + 260 * s' by omega] at d2
      refine ⟨?_, fun k hk => ?_, d3⟩
      · have eq : ∀ f i, M'.1 7 s' f i = M.1 7 s' f i := fun f i => h7 s' f i e (by omega)
        unfold cS at d1 ⊢
        simp only [eq]
        exact d1
      · rw [h10 _ (by omega) (by omega)]; exact d2 k hk
theorem lI_eq {M M' : zM} (h : ∀ t f i, M'.1 2 t f i = M.1 2 t f i) (hl : ∀ t, t < 4 → lI M t) : ∀ t, t < 4 → lI M' t := fun t ht => ⟨(h _ _ _).trans (hl t ht).1, fun k h1 h2 => (h _ _ _).trans ((hl t ht).2 k h1 h2)⟩
/-- one place of a sale is written, by both -/
theorem inv_set {M M2 : zM} {cnt len s f i : Nat} {SS : Nat → SB} {v : Int} (hI : Inv M) (h : sR M 0 cnt len SS) (hs : s < cnt) (hf : (f = 0 ∧ (i = 2 ∨ i = 3)) ∨ (f = 6 ∧ i < 6) ∨ (f = 8 ∧ i < 7)) (hv : (sPl f i = 2 ∧ 0 ≤ v ∧ v ≤ 2) ∨ (sPl f i = 3 ∧ 0 ≤ v ∧ v ≤ 99) ∨ (17 ≤ sPl f i ∧ sPl f i < 24 ∧ 0 ≤ v ∧ v ≤ 99) ∨ (227 ≤ sPl f i ∧ sPl f i < 233 ∧ 0 ≤ v ∧ v ≤ 9999)) (ho : Off rSl (zw M 7 s f i (iz v)) M2) : Inv (zw M2 10 0 1 (510 + 260 * s + sPl f i) (iz v)) ∧ sR (zw M2 10 0 1 (510 + 260 * s + sPl f i) (iz v)) 0 cnt len (upSS SS s (upS (SS s) (sPl f i) v)) := by
  have hc3 := h.1.2.2
  have e2 : ∀ c t f' i', ¬ rSl c t f' i' → M2.1 c t f' i' = (zw M 7 s f i (iz v)).1 c t f' i' := fun c t f' i' q => ho.1 c t f' i' q
  have hp : sPl f i < 240 := by omega
  have g7 : ∀ t f' i', (zw M2 10 0 1 (510 + 260 * s + sPl f i) (iz v)).1 7 t f' i' = (zw M 7 s f i (iz v)).1 7 t f' i' := fun t f' i' => by
    rw [zw_get, if_neg (by omega), e2 _ _ _ _ (by rintro ⟨q, -⟩; omega)]
  have gx : ∀ c t f' i', c ≠ 7 → c ≠ 10 → (zw M2 10 0 1 (510 + 260 * s + sPl f i) (iz v)).1 c t f' i' = M.1 c t f' i' := fun c t f' i' q1 q2 => by
    rw [zw_get, if_neg (by omega), e2 _ _ _ _ (by rintro ⟨q, -⟩; omega), zw_get, if_neg (by omega)]
  have g10 : ∀ f' i', f' ≠ 0 ∨ i' = 21 → (f' ≠ 1 ∨ i' ≠ 510 + 260 * s + sPl f i) → (zw M2 10 0 1 (510 + 260 * s + sPl f i) (iz v)).1 10 0 f' i' = M.1 10 0 f' i' := fun f' i' q1 q2 => by
    rw [zw_get, if_neg (by omega), e2 _ _ _ _ (by rintro ⟨-, -, q, q3⟩; omega), zw_get, if_neg (by omega)]
  have hsR : sR (zw M2 10 0 1 (510 + 260 * s + sPl f i) (iz v)) 0 cnt len (upSS SS s (upS (SS s) (sPl f i) v)) := by
    obtain ⟨d1, d3⟩ := h.cW.2.2 s hs
    refine h.sale hs (fun f' i' => gx _ _ _ _ (by omega) (by omega)) (fun t f' i' q1 q2 => by rw [g7, zw_get, if_neg (by omega)]) (fun i' q1 q2 => g10 _ _ (by omega) (by omega)) ?_ (rH_up (fun k hk => ?_) _ _) (SOK_up d3 hv)
    · have hc := cS_up d1 hf v
      unfold cS at hc ⊢
      simp only [g7]
      exact hc
    · rw [e2 _ _ _ _ (by rintro ⟨-, -, q, -⟩; omega), zw_get, if_neg (by omega)]
      exact (h.rW.2.2 s hs).1 k hk
  refine ⟨hI.now ⟨cnt, len, _, hsR⟩ (fun k f' i' _ _ => gx _ _ _ _ (by omega) (by omega)) (fun t f' i' q1 q2 => by rw [g7, zw_get, if_neg (by omega)]) (fun i' q => g10 _ _ (by omega) (by omega)) (fun i' => gx _ _ _ _ (by omega) (by omega)) (fun i' => g10 _ _ (by omega) (by omega)) (lI_eq fun t f' i' => gx _ _ _ _ (by omega) (by omega)) (g10 _ _ (by omega) (by omega)), hsR⟩
theorem inv_end {M : zM} {cnt len m : Nat} {SS : Nat → SB} (hI : Inv M) (h : sR M 0 cnt len SS) (hm : m ≤ len) : Inv (zw (zw M 8 0 0 1 (iz (m : Int))) 10 0 1 1 (iz (m : Int))) := by
  have hg : ∀ c t f i, ¬ (c = 8 ∧ t = 0 ∧ f = 0 ∧ i = 1) → ¬ (c = 10 ∧ t = 0 ∧ f = 1 ∧ i = 1) → (zw (zw M 8 0 0 1 (iz (m : Int))) 10 0 1 1 (iz (m : Int))).1 c t f i = M.1 c t f i := fun c t f i q1 q2 => by
    rw [zw_get, if_neg q2, zw_get, if_neg q1]
  obtain ⟨⟨a1, a2, a3⟩, ⟨b1, b2, b3⟩, c1, c2, c3, c4, c5⟩ := h
  refine hI.now ⟨cnt, m, SS, ⟨?_, ?_, a3⟩, ⟨rfl, rfl, by omega⟩, ?_, ?_, fun i hi => ?_, fun i hi => ?_, fun s hs => ⟨?_, fun k hk => ?_, (c5 s hs).2.2⟩⟩ (fun k f i q1 q2 => hg _ _ _ _ (by omega) (by omega)) (fun t f i _ _ => hg _ _ _ _ (by omega) (by omega)) (fun i q => hg _ _ _ _ (by omega) (by omega)) (fun i => hg _ _ _ _ (by omega) (by omega)) (fun i => hg _ _ _ _ (by omega) (by omega)) (lI_eq fun t f i => hg _ _ _ _ (by omega) (by omega)) (hg _ _ _ _ (by omega) (by omega))
  · rw [hg _ _ _ _ (by omega) (by omega)]; exact a1
  · rw [hg _ _ _ _ (by omega) (by omega)]; exact a2
  · rw [hg _ _ _ _ (by omega) (by omega), hg _ _ _ _ (by omega) (by omega)]; exact c1
  · rw [hg _ _ _ _ (by omega) (by omega), hg _ _ _ _ (by omega) (by omega)]; exact c2
  · rw [hg _ _ _ _ (by omega) (by omega), hg _ _ _ _ (by omega) (by omega)]; exact c3 i (by omega)
  · rw [hg _ _ _ _ (by omega) (by omega)]; exact c4 i hi
  · have hc := (c5 s hs).1
    have e : ∀ f i, (zw (zw M 8 0 0 1 (iz (m : Int))) 10 0 1 1 (iz (m : Int))).1 7 (3 * 0 + s) f i = M.1 7 (3 * 0 + s) f i := fun f i => hg _ _ _ _ (by omega) (by omega)
    unfold cS at hc ⊢
    simp only [e]
    exact hc
  · rw [hg _ _ _ _ (by omega) (by omega)]; exact (c5 s hs).2.1 k hk
