/-! REPLIES: one bidder's bid changed -/
def updB (bd : Nat → Int) (i : Nat) (x : Int) : Nat → Int := fun k => if k = i then x else bd k
def linO (bd mk : Nat → Int) (i : Nat) (bar : Int) (n : Nat) : List Nat := lin bd mk (fun k => decide ((k : Int) = (i : Int))) bar n
theorem updB_ne {bd : Nat → Int} {i k : Nat} {x : Int} (h : k ≠ i) : updB bd i x k = bd k := by
  unfold updB
  rw [if_neg h]
theorem updB_eq {bd : Nat → Int} {i : Nat} {x : Int} : updB bd i x i = x := by
  unfold updB
  rw [if_pos rfl]
theorem linO_mem {bd mk : Nat → Int} {i n x : Nat} {bar : Int} : x ∈ linO bd mk i bar n ↔ x < n ∧ x ≠ i ∧ ¬ (bd x < bar ∨ bd x = 0) := by
  unfold linO
  rw [lin_mem, decide_eq_true_iff]
  constructor
  · rintro ⟨a, b⟩
    exact ⟨a, fun q => b (Or.inl (by omega)), fun q => b (Or.inr q)⟩
  · rintro ⟨a, b, c⟩
    refine ⟨a, ?_⟩
    rintro (q | q)
    · exact b (by omega)
    · exact c q
theorem srt_congr {sc sc' : Nat → Int} {l : List Nat} (h : srt sc l) (e : ∀ x ∈ l, sc' x = sc x) : srt sc' l := by
  refine List.Pairwise.imp_of_mem (fun {a b} ha hb q => ?_) h
  unfold bef at q ⊢
  rw [e a ha, e b hb]
  exact q
theorem lin_upd {bd mk : Nat → Int} {i n : Nat} {bar x : Int} (hi : i < n) (hx : ¬ (x < bar ∨ x = 0)) : lin (updB bd i x) mk (fun _ => false) bar n = ins2 (fun k => updB bd i x k * mk k) i (linO bd mk i bar n) := by
  have hni : i ∉ linO bd mk i bar n := fun q => (linO_mem.mp q).2.1 rfl
  have hs : srt (fun k => updB bd i x k * mk k) (linO bd mk i bar n) := srt_congr (sc := fun k => bd k * mk k) (lin_srt n) (fun y hy => by
    show updB bd i x y * mk y = bd y * mk y
    rw [updB_ne (linO_mem.mp hy).2.1])
  refine srt_eq _ _ (lin_srt n) (ins2_srt _ hs hni) (fun y => ?_)
  rw [lin_mem, ins2_mem, linO_mem]
  by_cases hy : y = i
  · subst hy
    rw [updB_eq]
    constructor
    · intro _; exact Or.inl rfl
    · intro _; exact ⟨hi, by rintro (q | q); cases q; exact hx q⟩
  · rw [updB_ne hy]
    constructor
    · rintro ⟨a, b⟩; exact Or.inr ⟨a, hy, fun q => b (Or.inr q)⟩
    · rintro (q | ⟨a, -, c⟩)
      · exact absurd q hy
      · exact ⟨a, by rintro (q | q); cases q; exact c q⟩
theorem ins2_plf {bd mk : Nat → Int} {l : List Nat} {i : Nat} {s : Int} (hs : srt (fun k => bd k * mk k) l) (hni : i ∉ l) {sc : Nat → Int} (hsc : ∀ x ∈ l, sc x = bd x * mk x) (hi : sc i = s) : ins2 sc i l = l.take (plf (gLe bd mk l i s) l.length) ++ i :: l.drop (plf (gLe bd mk l i s) l.length) := by
  have hpl := plf_le (g := gLe bd mk l i s) l.length
  have hin := plf_in (g := gLe bd mk l i s) l.length
  have hst := plf_st (g := gLe bd mk l i s) l.length
  generalize plf (gLe bd mk l i s) l.length = p at hpl hin hst ⊢
  have gb : ∀ k, k < l.length → (gLe bd mk l i s k = true ↔ bef sc i (l.getD k 0)) := by
    intro k hk
    have hne : i ≠ l.getD k 0 := fun e => hni (by rw [e]; exact getD_mem hk)
    unfold gLe bef
    rw [decide_eq_true_iff, hsc _ (getD_mem hk), hi]
    constructor <;> intro q5 <;> omega
  refine ins2_at l p hpl (fun k hk hb => ?_) (fun q5 => (gb p q5).mp (hin p (Nat.le_refl _) q5))
  have h0 := hst (by omega)
  have h1 : ¬ bef sc i (l.getD (p - 1) 0) := fun q5 => by
    rw [(gb (p - 1) (by omega)).mpr q5] at h0
    cases h0
  rcases Nat.lt_or_ge k (p - 1) with q5 | q5
  · have h2 := List.pairwise_iff_getElem.mp hs k (p - 1) (by omega) (by omega) q5
    have h3 : bef (fun k => bd k * mk k) (l.getD k 0) (l.getD (p - 1) 0) := by
      simpa [List.getD_eq_getElem?_getD, List.getElem?_eq_getElem (show k < l.length by omega), List.getElem?_eq_getElem (show p - 1 < l.length by omega)] using h2
    apply h1
    unfold bef at hb h3 ⊢
    dsimp only at h3
    rw [hsc _ (getD_mem (show k < l.length by omega))] at hb
    rw [hsc _ (getD_mem (show p - 1 < l.length by omega))]
    omega
  · rw [show k = p - 1 by omega] at hb
    exact h1 hb
theorem fnd_eq {P : Nat → Bool} {p : Nat} : ∀ (d j : Nat), (∀ k, j ≤ k → k < p → P k = false) → P p = true → j ≤ p → p < j + d → fnd P j d = some p
  | 0, j, _, _, h3, h4 => by omega
  | d + 1, j, h1, h2, h3, h4 => by
    simp only [fnd]
    by_cases h : j = p
    · rw [if_pos (by rw [h]; exact h2), h]
    · rw [if_neg (by rw [h1 j (Nat.le_refl _) (by omega)]; decide)]
      exact fnd_eq d (j + 1) (fun k a b => h1 k (by omega) b) h2 (by omega) (by omega)
theorem fnd_no {P : Nat → Bool} : ∀ (d j : Nat), (∀ k, j ≤ k → k < j + d → P k = false) → fnd P j d = none
  | 0, _, _ => rfl
  | d + 1, j, h => by
    simp only [fnd]
    rw [if_neg (by rw [h j (Nat.le_refl _) (by omega)]; decide)]
    exact fnd_no d (j + 1) (fun k a b => h k (by omega) (by omega))
theorem plc_cut {l : List Nat} {p i nb : Nat} (hp : p ≤ l.length) (hni : i ∉ l) : plc (l.take p ++ i :: l.drop p) nb i = if p < nb then some p else none := by
  have hlen : (l.take p ++ i :: l.drop p).length = l.length + 1 := by
    rw [List.length_append, List.length_cons, List.length_take, List.length_drop]
    omega
  have lt : ∀ k, k < p → ((l.take p ++ i :: l.drop p).getD k 0 == i) = false := by
    intro k hk
    rw [cut_get hp, if_pos hk, beq_eq_false_iff_ne]
    exact fun q => hni (by rw [← q]; exact getD_mem (by omega))
  unfold plc
  rw [hlen]
  split
  · exact fnd_eq _ _ (fun k _ hk => lt k hk) (by rw [cut_get hp, if_neg (by omega), if_pos rfl]; simp) (by omega) (by omega)
  · exact fnd_no _ _ (fun k _ hk => lt k (by omega))
theorem plc_no {l : List Nat} {i nb : Nat} (hni : i ∉ l) : plc l nb i = none := fnd_no _ _ (fun k _ hk => by
  rw [beq_eq_false_iff_ne]
  exact fun q => hni (by rw [← q]; exact getD_mem (by omega)))
theorem sco_cut {bd mk bd' : Nat → Int} {l : List Nat} {p i k : Nat} (hp : p ≤ l.length) (hk : p ≤ k) (hb : ∀ x ∈ l, bd' x = bd x) : sco bd' mk (l.take p ++ i :: l.drop p) (k + 1) = sco bd mk l k := by
  have hlen : (l.take p ++ i :: l.drop p).length = l.length + 1 := by
    rw [List.length_append, List.length_cons, List.length_take, List.length_drop]
    omega
  unfold sco
  rw [hlen, cut_get hp, if_neg (show ¬ k + 1 < p by omega), if_neg (show ¬ k + 1 = p by omega), Nat.add_sub_cancel]
  by_cases h : k < l.length
  · rw [if_pos (by omega), if_pos h, hb _ (getD_mem h)]
  · rw [if_neg (by omega), if_neg h]
theorem hs2_shift {S : SB} {sc sc' : Nat → Int} {p : Nat} (h : ∀ k, p ≤ k → sc' (k + 1) = sc k) : ∀ (d a q : Nat), p ≤ q → hs2 S sc' a (q + 1) d = hs2 S sc a q d
  | 0, _, _, _ => rfl
  | d + 1, a, q, hq => by
    simp only [hs2]
    rw [h q hq, hs2_shift h d (a + 1) (q + 1) (by omega)]
/-- his gain by his own bid, over the others' line -/
def gB (S : SB) (bd mk : Nat → Int) (lo : List Nat) (i : Nat) (bar x : Int) : Int :=
  if x < bar ∨ x = 0 then 0
  else if ((plf (gLe bd mk lo i (x * mk i)) lo.length : Nat) : Int) < S 0 then worS S i (plf (gLe bd mk lo i (x * mk i)) lo.length) - max (bar * pas S (plf (gLe bd mk lo i (x * mk i)) lo.length)) (askV S (sco bd mk lo) x (mk i) (plf (gLe bd mk lo i (x * mk i)) lo.length) (plf (gLe bd mk lo i (x * mk i)) lo.length))
  else 0
theorem gB_gain {S : SB} {bd mk : Nat → Int} {i n nb : Nat} {bar x : Int} (hS : SOK S) (hnb : S 0 = (nb : Int)) (hbar : 0 ≤ bar) (hi : i < n) : gnS (worS S) (payB S (updB bd i x) mk bar (lin (updB bd i x) mk (fun _ => false) bar n) nb) (plc (lin (updB bd i x) mk (fun _ => false) bar n) nb i) i = gB S bd mk (linO bd mk i bar n) i bar x := by
  unfold gB
  by_cases hx : x < bar ∨ x = 0
  · rw [if_pos hx, plc_no (fun q => by
      have := ((lin_mem _).mp q).2
      rw [updB_eq] at this
      exact this (Or.inr hx))]
    rfl
  · rw [if_neg hx, lin_upd hi hx]
    have hni : i ∉ linO bd mk i bar n := fun q => (linO_mem.mp q).2.1 rfl
    have hbd : ∀ y ∈ linO bd mk i bar n, updB bd i x y = bd y := fun y hy => updB_ne (linO_mem.mp hy).2.1
    have hpl := plf_le (g := gLe bd mk (linO bd mk i bar n) i (x * mk i)) (linO bd mk i bar n).length
    have hso : srt (fun k => bd k * mk k) (linO bd mk i bar n) := lin_srt n
    rw [ins2_plf (bd := bd) (mk := mk) (l := linO bd mk i bar n) (i := i) (s := x * mk i) (sc := fun k => updB bd i x k * mk k) hso hni (fun y hy => by show updB bd i x y * mk y = bd y * mk y; rw [hbd y hy]) (by show updB bd i x i * mk i = x * mk i; rw [updB_eq])]
    rw [plc_cut hpl hni]
    generalize plf (gLe bd mk (linO bd mk i bar n) i (x * mk i)) (linO bd mk i bar n).length = p at hpl ⊢
    by_cases hp : p < nb
    · rw [if_pos hp, if_pos (by omega)]
      have hlen : ((linO bd mk i bar n).take p ++ i :: (linO bd mk i bar n).drop p).length = (linO bd mk i bar n).length + 1 := by
        rw [List.length_append, List.length_cons, List.length_take, List.length_drop]
        omega
      have hget : ((linO bd mk i bar n).take p ++ i :: (linO bd mk i bar n).drop p).getD p 0 = i := by
        rw [cut_get hpl, if_neg (by omega), if_pos rfl]
      simp only [gnS]
      unfold payB
      rw [if_pos (by rw [hlen]; omega), ← payS_ask hS hbar (by rw [hget, updB_eq]; omega), hget, updB_eq]
      congr 2
      unfold askV
      rw [hs2_shift (p := p) (fun k hk => sco_cut hpl hk hbd) _ _ _ (Nat.le_refl _), sco_cut hpl (Nat.le_refl _) hbd]
    · rw [if_neg hp, if_neg (by omega)]
      rfl
theorem plf_cut {g : Nat → Bool} {p : Nat} : ∀ n : Nat, (∀ k, p ≤ k → k < n → g k = true) → plf g n = plf g (min p n)
  | 0, _ => by simp
  | n + 1, h => by
    by_cases hp : n + 1 ≤ p
    · rw [Nat.min_eq_right hp]
    · rw [Nat.min_eq_left (by omega)]
      simp only [plf]
      rw [if_pos (h n (by omega) (by omega)), plf_cut n (fun k a b => h k a (by omega)), Nat.min_eq_left (by omega)]
theorem plf_mono {g g' : Nat → Bool} (h : ∀ k, g k = true → g' k = true) : ∀ n, plf g' n ≤ plf g n
  | 0 => Nat.le_refl _
  | n + 1 => by
    have ih := plf_mono h n
    have h1 := plf_le (g := g') n
    simp only [plf]
    by_cases hg : g n = true
    · rw [if_pos hg, if_pos (h n hg)]
      exact ih
    · rw [if_neg hg]
      split <;> omega
theorem gLe_mono {bd mk : Nat → Int} {l : List Nat} {i : Nat} {s s' : Int} (h : s ≤ s') (k : Nat) (hg : gLe bd mk l i s k = true) : gLe bd mk l i s' k = true := by
  unfold gLe at hg ⊢
  rw [decide_eq_true_iff] at hg ⊢
  omega
/-- at the same place a greater bid gains no more -/
theorem gB_same {S : SB} {bd mk : Nat → Int} {lo : List Nat} {i : Nat} {bar x y : Int} (hS : SOK S) (hxy : x ≤ y) (hx : ¬ (x < bar ∨ x = 0)) (hx0 : 0 ≤ x) (hp : plf (gLe bd mk lo i (x * mk i)) lo.length = plf (gLe bd mk lo i (y * mk i)) lo.length) : gB S bd mk lo i bar y ≤ gB S bd mk lo i bar x := by
  unfold gB
  rw [if_neg hx, if_neg (by omega), ← hp]
  generalize plf (gLe bd mk lo i (x * mk i)) lo.length = p
  have hpas := pas_b hS p
  split
  · have : askV S (sco bd mk lo) x (mk i) p p ≤ askV S (sco bd mk lo) y (mk i) p p := by
      unfold askV
      split
      · exact Int.mul_le_mul_of_nonneg_right hxy hpas.1
      · split
        · exact Int.le_refl _
        · exact Int.le_refl _
    omega
  · omega
/-- the first place, of 0 .. n, where f is greatest -/
def amx (f : Nat → Int) : Nat → Nat
  | 0 => 0
  | n + 1 => if f (amx f n) < f (n + 1) then n + 1 else amx f n
theorem amx_le {f : Nat → Int} : ∀ n, amx f n ≤ n
  | 0 => Nat.le_refl _
  | n + 1 => by
    have := amx_le (f := f) n
    simp only [amx]
    split <;> omega
theorem amx_max {f : Nat → Int} : ∀ n k, k ≤ n → f k ≤ f (amx f n)
  | 0, k, h => by rw [show k = 0 by omega]; exact Int.le_refl _
  | n + 1, k, h => by
    simp only [amx]
    by_cases hk : k = n + 1
    · subst hk
      split
      · exact Int.le_refl _
      · omega
    · have := amx_max (f := f) n k (by omega)
      split
      · omega
      · exact this
