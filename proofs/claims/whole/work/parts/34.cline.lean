/-! the class's line -/
def bef (sc : Nat → Int) (a b : Nat) : Prop := sc b < sc a ∨ (sc a = sc b ∧ a < b)
def ins2 (sc : Nat → Int) (i : Nat) : List Nat → List Nat
  | [] => [i]
  | k :: r => if sc k < sc i ∨ (sc k = sc i ∧ i < k) then i :: k :: r else k :: ins2 sc i r
theorem ins2_ins {sc : Nat → Int} {i : Nat} : ∀ l : List Nat, (∀ x ∈ l, x < i) → ins2 sc i l = ins sc i l
  | [], _ => rfl
  | k :: r, h => by
    have hk := h k List.mem_cons_self
    simp only [ins2, ins]
    by_cases h1 : sc i ≤ sc k
    · rw [if_neg (by omega), if_pos h1, ins2_ins r (fun x hx => h x (List.mem_cons_of_mem _ hx))]
    · rw [if_pos (by omega), if_neg h1]
theorem ins2_at {sc : Nat → Int} {i : Nat} : ∀ (l : List Nat) (p : Nat), p ≤ l.length → (∀ k, k < p → ¬ bef sc i (l.getD k 0)) → (p < l.length → bef sc i (l.getD p 0)) → ins2 sc i l = l.take p ++ i :: l.drop p
  | [], p, h, _, _ => by
    have : p = 0 := by simpa using h
    subst this
    rfl
  | a :: r, 0, _, _, h2 => by
    have h3 : bef sc i a := by simpa using h2 (by simp)
    unfold bef at h3
    simp only [ins2]
    rw [if_pos (by omega)]
    rfl
  | a :: r, p + 1, h, h1, h2 => by
    have h3 : ¬ bef sc i a := by simpa using h1 0 (by omega)
    unfold bef at h3
    simp only [ins2]
    rw [if_neg (by omega), ins2_at r p (by simpa using h) (fun k hk => by simpa using h1 (k + 1) (by omega)) (fun hp => by simpa using h2 (by simpa using hp))]
    rfl
/-- he who is before stands before -/
def srt (sc : Nat → Int) (l : List Nat) : Prop := l.Pairwise (bef sc)
theorem ins2_mem {sc : Nat → Int} {i x : Nat} : ∀ l : List Nat, x ∈ ins2 sc i l ↔ x = i ∨ x ∈ l
  | [] => by simp [ins2]
  | a :: r => by
    simp only [ins2]
    split
    · simp only [List.mem_cons]
    · simp only [List.mem_cons, ins2_mem r]
      constructor
      · rintro (h | h | h)
        · exact Or.inr (Or.inl h)
        · exact Or.inl h
        · exact Or.inr (Or.inr h)
      · rintro (h | h | h)
        · exact Or.inr (Or.inl h)
        · exact Or.inl h
        · exact Or.inr (Or.inr h)
theorem ins2_len {sc : Nat → Int} {i : Nat} : ∀ l : List Nat, (ins2 sc i l).length = l.length + 1
  | [] => rfl
  | a :: r => by
    simp only [ins2]
    split
    · simp
    · simp [ins2_len r]
theorem ins2_srt {sc : Nat → Int} {i : Nat} : ∀ l : List Nat, srt sc l → i ∉ l → srt sc (ins2 sc i l)
  | [], _, _ => by simp [ins2, srt]
  | a :: r, h, hn => by
    unfold srt at h ⊢
    rw [List.pairwise_cons] at h
    have hne : i ≠ a := fun q => hn (by rw [q]; exact List.mem_cons_self)
    simp only [ins2]
    split
    · next hle =>
      rw [List.pairwise_cons]
      refine ⟨fun b hb => ?_, List.pairwise_cons.mpr h⟩
      have hia : bef sc i a := by unfold bef; omega
      rcases List.mem_cons.mp hb with hb | hb
      · rw [hb]; exact hia
      · have := h.1 b hb
        unfold bef at this hia ⊢
        omega
    · next hle =>
      rw [List.pairwise_cons]
      refine ⟨fun b hb => ?_, ins2_srt r h.2 (fun q => hn (List.mem_cons_of_mem _ q))⟩
      rcases (ins2_mem _).mp hb with hb | hb
      · rw [hb]; unfold bef; omega
      · exact h.1 b hb
/-- of the same, one line alone -/
theorem srt_eq {sc : Nat → Int} : ∀ (l l' : List Nat), srt sc l → srt sc l' → (∀ x, x ∈ l ↔ x ∈ l') → l = l'
  | [], [], _, _, _ => rfl
  | [], a :: r, _, _, h => by have := (h a).mpr List.mem_cons_self; cases this
  | a :: r, [], _, _, h => by have := (h a).mp List.mem_cons_self; cases this
  | a :: r, a' :: r', h1, h2, h => by
    unfold srt at h1 h2
    rw [List.pairwise_cons] at h1 h2
    have haa : a = a' := by
      rcases List.mem_cons.mp ((h a).mp List.mem_cons_self) with q | q
      · exact q
      · rcases List.mem_cons.mp ((h a').mpr List.mem_cons_self) with q' | q'
        · exact q'.symm
        · have e1 := h2.1 a q
          have e2 := h1.1 a' q'
          unfold bef at e1 e2
          omega
    subst haa
    have ni : ∀ {x : Nat} {t : List Nat}, (∀ b ∈ t, bef sc x b) → x ∉ t := fun {x t} q z => by
      have := q x z
      unfold bef at this
      omega
    have := srt_eq r r' h1.2 h2.2 (fun x => by
      constructor
      · intro hx
        rcases List.mem_cons.mp ((h x).mp (List.mem_cons_of_mem _ hx)) with q | q
        · subst q; exact absurd hx (ni h1.1)
        · exact q
      · intro hx
        rcases List.mem_cons.mp ((h x).mpr (List.mem_cons_of_mem _ hx)) with q | q
        · subst q; exact absurd hx (ni h2.1)
        · exact q)
    rw [this]
theorem lin_mem {bd mk : Nat → Int} {ex : Nat → Bool} {bar : Int} {x : Nat} : ∀ n : Nat, x ∈ lin bd mk ex bar n ↔ x < n ∧ ¬ (ex x = true ∨ bd x < bar ∨ bd x = 0)
  | 0 => by simp [lin]
  | n + 1 => by
    simp only [lin]
    split
    · next h =>
      rw [lin_mem n]
      constructor
      · rintro ⟨a, b⟩; exact ⟨by omega, b⟩
      · rintro ⟨a, b⟩
        refine ⟨?_, b⟩
        rcases Nat.lt_or_ge x n with q | q
        · exact q
        · have : x = n := by omega
          subst this
          exact absurd h b
    · next h =>
      rw [ins_mem, lin_mem n]
      constructor
      · rintro (q | ⟨a, b⟩)
        · subst q; exact ⟨by omega, h⟩
        · exact ⟨by omega, b⟩
      · rintro ⟨a, b⟩
        rcases Nat.lt_or_ge x n with q | q
        · exact Or.inr ⟨q, b⟩
        · exact Or.inl (by omega)
theorem lin_srt {bd mk : Nat → Int} {ex : Nat → Bool} {bar : Int} : ∀ n : Nat, srt (fun k => bd k * mk k) (lin bd mk ex bar n)
  | 0 => by simp [lin, srt]
  | n + 1 => by
    simp only [lin]
    split
    · exact lin_srt n
    · have hlt : ∀ x ∈ lin bd mk ex bar n, x < n := fun x hx => lin_lt n x hx
      rw [← ins2_ins _ hlt]
      exact ins2_srt _ (lin_srt n) (fun q => by have := hlt n q; omega)
/-- line t of the class holds the line l of a sale S at a bar -/
def cL (M : zM) (t : Nat) (S : SB) (bar : Int) (bd mk : Nat → Int) (l : List Nat) : Prop := M.1 2 t 0 5 = iz (S 0) ∧ M.1 2 t 0 6 = iz (S 2) ∧ M.1 2 t 0 7 = iz bar ∧ M.1 2 t 0 8 = iz (l.length : Int) ∧ (∀ j, j < 7 → M.1 2 t 1 j = iz (pas S j)) ∧ (∀ k, k < l.length → M.1 2 t 2 k = iz ((l.getD k 0 : Nat) : Int) ∧ M.1 2 t 3 k = iz (bd (l.getD k 0)) ∧ M.1 2 t 4 k = iz (mk (l.getD k 0))) ∧ ∀ k, k < 14 → M.1 2 t 5 k = iz (sco bd mk l k)
/-- what of a line is never written -/
def lI (M : zM) (t : Nat) : Prop := M.1 2 t 1 6 = iz 0 ∧ ∀ k, 8 ≤ k → k < 14 → M.1 2 t 5 k = iz 0
def cLn (t0 c t f i : Nat) : Prop := c = 2 ∧ t = t0
section Z34
variable {Γ : zC} {Q : zQ} {M : zM} {t ts : Nat} {S : SB} {n nb : Nat} {bd mk : Nat → Int} {ex : Nat → Bool} {l : List Nat} {bar : Int}
theorem cS.off {P : Nat → Nat → Nat → Nat → Prop} {M M' : zM} (h : cS M ts S) (ho : Off P M M') (hP : ∀ f i, ¬ P 7 ts f i) : cS M' ts S := by
  obtain ⟨h1, h2, h3, h4, h5, h6, h7, h8, h9, h10, h11, h12, h13⟩ := h
  have e : ∀ f i, M'.1 7 ts f i = M.1 7 ts f i := fun f i => ho.1 _ _ _ _ (hP f i)
  simp only [cS, e]
  exact ⟨h1, h2, h3, h4, h5, h6, h7, h8, h9, h10, h11, h12, h13⟩
theorem c_open (hS : SOK S) (hC : cS M ts S) (hI : lI M t) (h : ∀ M', Off (cLn t) M M' → (∀ bd mk : Nat → Int, cL M' t S bar bd mk []) → Q none M') : zEv Γ 17 [zo 2 t 0, zo 7 ts 0, zi (iz bar)] M Q := by
  have h6 := hS.1
  have loop2 : ∀ (d j : Nat) (M1 : zM), j + d = 8 → Off (cLn t) M M1 → (M1.1 2 t 0 5 = iz (S 0) ∧ M1.1 2 t 0 6 = iz (S 2) ∧ M1.1 2 t 0 7 = iz bar ∧ M1.1 2 t 0 8 = iz 0) → (∀ k, k < 7 → M1.1 2 t 1 k = iz (pas S k)) → (∀ k, k < j ∨ 8 ≤ k → k < 14 → M1.1 2 t 5 k = iz 0) → zGo Γ 17 Q 66 [some (zo 2 t 0), none, none, some (zi (iz (j : Int)))] [] M1 := by
    intro d
    induction d with
    | zero =>
      intro j M1 hj ho hf hp hs
      refine bk_17_66 ?_
      rw [iz_nat, iz_lt (by omega) (by omega) (by omega) (by omega)]
      refine ⟨fun _ => h M1 ho (fun bd mk => ⟨hf.1, hf.2.1, hf.2.2.1, hf.2.2.2, hp, fun k hk => by simp at hk, fun k hk => ?_⟩), fun q => absurd (show (7 : Int) < (j : Int) by omega) q⟩
      rw [hs k (by omega) hk]
      simp [sco]
    | succ d ih =>
      intro j M1 hj ho hf hp hs
      refine bk_17_66 ?_
      rw [iz_nat, iz_lt (by omega) (by omega) (by omega) (by omega), iz_s, iz_clN (by omega)]
      refine ⟨fun q => absurd (show (7 : Int) < (j : Int) from q) (by omega), fun _ => ⟨iz_inN (by omega) (by omega), ih (j + 1) _ (by omega) (ho.w _ ⟨rfl, rfl⟩) ?_ (fun k hk => ?_) (fun k hk hk2 => ?_)⟩⟩
      · simp only [zw_get]
        simpa using hf
      · simp only [zw_get]
        simpa using hp k hk
      · rw [zw_get]
        by_cases hkj : k = j
        · rw [if_pos (by omega)]; rfl
        · rw [if_neg (by omega)]
          exact hs k (by omega) hk2
  have loop1 : ∀ (d j : Nat) (M1 : zM), j + d = 6 → Off (cLn t) M M1 → (M1.1 2 t 0 5 = iz (S 0) ∧ M1.1 2 t 0 6 = iz (S 2) ∧ M1.1 2 t 0 7 = iz bar ∧ M1.1 2 t 0 8 = iz 0) → (∀ k, k < j ∨ k = 6 → M1.1 2 t 1 k = iz (pas S k)) → (∀ k, 8 ≤ k → k < 14 → M1.1 2 t 5 k = iz 0) → zGo Γ 17 Q 28 [some (zo 2 t 0), some (zo 7 ts 0), none, some (zi (iz (j : Int)))] [] M1 := by
    intro d
    induction d with
    | zero =>
      intro j M1 hj ho hf hp hs
      refine bk_17_28 ?_
      rw [iz_nat, iz_le (by omega) (by omega) (by omega) (by omega)]
      refine ⟨fun _ => loop2 8 0 M1 (by omega) ho hf (fun k hk => hp k (by omega)) (fun k hk hk2 => hs k (by omega) hk2), fun q => absurd (show (6 : Int) ≤ (j : Int) by omega) q⟩
    | succ d ih =>
      intro j M1 hj ho hf hp hs
      have hC1 : M1.1 7 ts 5 j = iz (S (4 + j)) := (ho.1 _ _ _ _ (by rintro ⟨q, -⟩; omega)).trans (hC.2.1 j (by omega))
      have next : ∀ v : Int, v = pas S j → zGo Γ 17 Q 28 [some (zo 2 t 0), some (zo 7 ts 0), none, some (zi (iz (j : Int) + 1))] [] (zw M1 2 t 1 j (iz v)) := by
        intro v hv
        rw [iz_s]
        refine ih (j + 1) _ (by omega) (ho.w _ ⟨rfl, rfl⟩) (by simp only [zw_get]; simpa using hf) (fun k hk => ?_) (fun k hk hk2 => by simp only [zw_get]; simpa using hs k hk hk2)
        rw [zw_get]
        by_cases hkj : k = j
        · rw [if_pos (by omega), hv, hkj]
        · rw [if_neg (by omega)]
          exact hp k (by omega)
      refine bk_17_28 ?_
      rw [iz_nat, iz_le (by omega) (by omega) (by omega) (by omega), hf.1, iz_le (by omega) (by omega) (by omega) (by omega), iz_clN (by omega), hC1]
      refine ⟨fun q => absurd (show (6 : Int) ≤ (j : Int) from q) (by omega), fun _ => ⟨fun q => ⟨iz_inN (by omega) (by omega), next 0 ?_⟩, fun q => ⟨iz_inN (by omega) (by omega), iz_inN (by omega) (by omega), next _ ?_⟩⟩⟩
      · unfold pas
        rw [if_neg (by omega)]
      · unfold pas
        rw [if_pos (by omega)]
  refine en_17 (bk_17_0 ?_)
  have o1 : Off (cLn t) M (zw (zw (zw (zw M 2 t 0 5 (M.1 7 ts 0 0)) 2 t 0 6 ((zw M 2 t 0 5 (M.1 7 ts 0 0)).1 7 ts 0 2)) 2 t 0 7 (iz bar)) 2 t 0 8 0) := (((((Off.rf M).w _ ⟨rfl, rfl⟩).w _ ⟨rfl, rfl⟩).w _ ⟨rfl, rfl⟩).w _ ⟨rfl, rfl⟩)
  refine loop1 6 0 _ (by omega) o1 ?_ (fun k hk => ?_) (fun k hk hk2 => ?_)
  · simp only [zw_get]
    have e0 := hC.1 0 (by omega)
    have e2 := hC.1 2 (by omega)
    refine ⟨?_, ?_, ?_, rfl⟩
    · simpa using e0
    · simpa using e2
    · simp
  · have : k = 6 := by omega
    subst this
    have e := hI.1
    have e6 : pas S 6 = 0 := by
      unfold pas
      rw [if_neg (by omega)]
    rw [e6]
    simp only [zw_get]
    simpa using e
  · simp only [zw_get]
    simpa using hI.2 k hk hk2
theorem c_admits {b : Int} (hL : cL M t S bar bd mk l) (hb : 0 ≤ b ∧ b ≤ 99) (hbar : 0 ≤ bar ∧ bar ≤ 99) (hf : b < bar ∨ b = 0 → Q (some (zi 0)) M) (ht : ¬ (b < bar ∨ b = 0) → Q (some (zi 1)) M) : zEv Γ 24 [zo 2 t 0, zi (iz b)] M Q := by
  refine en_24 (bk_24_0 ?_)
  rw [hL.2.2.1, iz_lt (by omega) (by omega) (by omega) (by omega), iz0, iz_le (by omega) (by omega) (by omega) (by omega)]
  exact ⟨fun q => ⟨Or.inl rfl, hf (Or.inl q)⟩, fun q1 => ⟨fun q => ⟨Or.inl rfl, hf (Or.inr (by omega))⟩, fun q => ⟨Or.inr rfl, ht (by omega)⟩⟩⟩
end Z34
