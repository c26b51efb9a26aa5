/-! the class scans the tape -/
def tkU (M : zM) (tp : Nat → Int) (n k : Nat) : Prop := (∀ j, j < k → M.1 5 0 5 j = iz ((tkK tp n j : Nat) : Int)) ∧ (∀ j, j < k → M.1 5 0 6 j = iz ((tkW tp n j : Nat) : Int)) ∧ (∀ j, j < k → tkK tp n j = 1 → M.1 5 0 7 j = iz (tkN tp n j)) ∧ M.1 5 0 0 7 = iz (k : Int) ∧ ∀ j, j < k → tkK tp n j ≠ 0
def oSc (c t f i : Nat) : Prop := c = 5 ∧ t = 0 ∧ (f = 5 ∨ f = 6 ∨ f = 7 ∨ (f = 0 ∧ i = 7))
theorem rnT_id {tp : Nat → Int} {n k p : Nat} (h : kc tp n p ≠ k) : ∀ d, rnT tp n k d p = p
  | 0 => rfl
  | d + 1 => by rw [rnT, if_neg h]
theorem rnF_id {tp : Nat → Int} {n k p : Nat} (h : kc tp n p ≠ k) : rnF tp n k p = p := rnT_id h _
section Za3
variable {Γ : zC} {Q : zQ} {M : zM} {tp : Nat → Int} {n : Nat}
theorem cTp.off {P : Nat → Nat → Nat → Nat → Prop} {M M' : zM} (h : cTp M tp n) (ho : Off P M M') (h8 : ∀ f i, ¬ P 8 0 f i) : cTp M' tp n := ⟨(ho.1 _ _ _ _ (h8 _ _)).trans h.1, h.2.1, fun p hp => ⟨(ho.1 _ _ _ _ (h8 _ _)).trans (h.2.2 p hp).1, (h.2.2 p hp).2⟩⟩
theorem cTp.sc {M M' : zM} (h : cTp M tp n) (ho : Off oSc M M') : cTp M' tp n := h.off ho (by unfold oSc; intro f i; omega)
theorem c_addToken {k p to : Nat} (hsr : zSr Γ) (hT : cTp M tp n) (hU : tkU M tp n k) (hk : k ≤ p) (hp : p < n) (hW : tkW tp n k = p) (hP : tkP tp n (k + 1) = to) (h : ∀ M', Off oSc M M' → tkU M' tp n (k + 1) → Q none M') : zEv Γ 66 [zo 5 0 0, zo 8 0 0, zi (iz ((kc tp n p : Nat) : Int)), zi (iz (p : Int)), zi (iz (to : Int))] M Q := by
  have hn := hT.2.1
  obtain ⟨u1, u2, u3, u4, u5⟩ := hU
  have hs := tkW_le (tp := tp) (n := n) (k := k)
  have hpl := tkP_le (tp := tp) (n := n) (k + 1)
  rw [hW, hP] at hs
  rw [hP] at hpl
  have hb255 : ∀ p, p < n → 0 ≤ tp p ∧ tp p ≤ 255 := fun p hp => (hT.2.2 p hp).2
  have kz : kc tp n p ≠ 0 := by
    rw [Ne, kc_0]
    omega
  have eE : to = tkE tp n p := by
    rw [← hP, ← hW]
    rfl
  have kb := kc_c tp n p
  have Kb := tkK_b (tp := tp) (n := n) (k := k)
  have K0 : tkK tp n k ≠ 0 := fun z => by
    rw [tkK_0, hW] at z
    omega
  have in5 : vp_in (iz (k : Int)) 501 := iz_inN (by omega) (by omega)
  have clk : (iz (k : Int)).toNatClampNeg = k := iz_clN (by omega)
  have fin : ∀ x : Int32, (tkK tp n k = 1 → x = iz (tkN tp n k)) → Q none (zw (zw (zw (zw M 5 0 6 k (iz (p : Int))) 5 0 5 k (iz ((tkK tp n k : Nat) : Int))) 5 0 7 k x) 5 0 0 7 (iz ((k + 1 : Nat) : Int))) := fun x hx => by
    refine h _ (((((Off.rf M).w _ (by unfold oSc; omega)).w _ (by unfold oSc; omega)).w _ (by unfold oSc; omega)).w _ (by unfold oSc; omega)) ⟨fun j hj => ?_, fun j hj => ?_, fun j hj hj1 => ?_, zw_eq, fun j hj => ?_⟩
    · by_cases e : j = k
      · subst e
        rw [zw_ne (by omega), zw_ne (by omega), zw_eq]
      · rw [zw_ne (by omega), zw_ne (by omega), zw_ne (by omega), zw_ne (by omega)]
        exact u1 j (by omega)
    · by_cases e : j = k
      · subst e
        rw [zw_ne (by omega), zw_ne (by omega), zw_ne (by omega), zw_eq, hW]
      · rw [zw_ne (by omega), zw_ne (by omega), zw_ne (by omega), zw_ne (by omega)]
        exact u2 j (by omega)
    · by_cases e : j = k
      · subst e
        rw [zw_ne (by omega), zw_eq]
        exact hx hj1
      · rw [zw_ne (by omega), zw_ne (by omega), zw_ne (by omega), zw_ne (by omega)]
        exact u3 j (by omega) hj1
    · by_cases e : j = k
      · subst e
        exact K0
      · exact u5 j (by omega)
  have z7a : ∀ x, (zw M 5 0 6 k x).1 5 0 0 7 = iz (k : Int) := fun x => (zw_ne (by omega)).trans u4
  have z7b : ∀ x y, (zw (zw M 5 0 6 k x) 5 0 5 k y).1 5 0 0 7 = iz (k : Int) := fun x y => (zw_ne (by omega)).trans (z7a x)
  have z5b : ∀ x y, (zw (zw M 5 0 6 k x) 5 0 5 k y).1 5 0 5 k = y := fun x y => zw_eq
  have z7c : ∀ x y z, (zw (zw (zw M 5 0 6 k x) 5 0 5 k y) 5 0 7 k z).1 5 0 0 7 = iz (k : Int) := fun x y z => (zw_ne (by omega)).trans (z7b x y)
  refine en_66 (bk_66_0 ?_)
  simp only [u4, clk, z7a, z7b, z5b, z7c, iz_s]
  have e5 : (iz ((kc tp n p : Nat) : Int) = 5) = (kc tp n p = 5) := by
    rw [show (5 : Int32) = iz 5 from rfl, iz_eq (by omega) (by omega) (by omega) (by omega)]
    exact propext ⟨fun z => by omega, fun z => by omega⟩
  have e1 : (iz ((kc tp n p : Nat) : Int) = 1) = (kc tp n p = 1) := by
    rw [iz1, iz_eq (by omega) (by omega) (by omega) (by omega)]
    exact propext ⟨fun z => by omega, fun z => by omega⟩
  rw [e5, e1]
  refine ⟨in5, fun q5 => ⟨fun q1 => ?_, fun q1 => ?_⟩, fun q5 => ?_⟩
  · -- neither a word nor a number
    have eK : tkK tp n k = kc tp n p := by
      rcases kb with e | e | e | e | e | e
      · exact absurd e q5
      · exact absurd e q1
      · exact absurd e kz
      · rw [tkK_2 (by rw [hW]; exact e), e]
      · exact absurd e (by have := hs.2.2.2; exact this)
      · rw [tkK_3 (by rw [hW]; exact e), e]
    have := fin 0 (fun z => by rw [eK] at z; exact absurd z q1)
    rw [eK] at this
    exact ⟨in5, in5, fun _ => ⟨in5, this⟩, fun z => absurd z q1⟩
  · -- a number
    have eR : to = rnF tp n 1 p := by
      rw [eE]
      unfold tkE
      rw [if_pos (Or.inr q1), q1]
    have rn := rnF_ok (tp := tp) (n := n) (k := 1) (p := p) (by omega) (by omega)
    rw [← eR] at rn
    have dig : ∀ i, p ≤ i → i < to → 48 ≤ tp i ∧ tp i ≤ 57 := fun i h1 h2 => by
      have kk := rn.2.2.1 i h1 h2
      have hin : i < n := by omega
      have c2 := (ck_bt (tp := tp) (n := n) (p := i) (hb255 _)).2.1.mp kk
      unfold btA at c2
      rw [if_pos hin] at c2
      exact c2
    have eK := tkK_1 (tp := tp) (n := n) (k := k) (by rw [hW]; exact q1)
    rw [hP, hW] at eK
    rw [iz_sub, show (iz ((to : Int) - (p : Int)) ≤ 4) = (to - p ≤ 4) by rw [show (4 : Int32) = iz 4 from rfl, iz_le (by omega) (by omega) (by omega) (by omega)]; exact propext ⟨fun z => by omega, fun z => by omega⟩]
    refine ⟨fun q4 => ⟨in5, in5, fun z => absurd q1 z, fun _ => ?_⟩, fun q4 => ⟨in5, in5, fun _ => ⟨in5, ?_⟩, fun z => absurd z (by decide)⟩⟩
    · rw [if_neg (by omega)] at eK
      have nvb : ∀ m, m ≤ 4 → p + m ≤ to → 0 ≤ nvT tp p m ∧ nvT tp p m < 10000 := fun m h1 h2 => by
        have := nvT_b (tp := tp) (w := p) m h1 (fun i hi => dig (p + i) (by omega) (by omega))
        have hp : (10 : Int) ^ m ≤ 10 ^ 4 := by
          rcases (by omega : m = 0 ∨ m = 1 ∨ m = 2 ∨ m = 3 ∨ m = 4) with e | e | e | e | e <;> subst e <;> decide
        have h4 : (10 : Int) ^ 4 = 10000 := by decide
        omega
      have eN : tkN tp n k = nvT tp p (to - p) := by
        unfold tkN
        rw [if_pos eK, hW, hP]
      have fin1 := fin (iz (nvT tp p (to - p))) (fun _ => by rw [eN])
      rw [eK] at fin1
      have key := zloop (P := fun i M4 => M4 = zw (zw M 5 0 6 k (iz (p : Int))) 5 0 5 k (iz ((kc tp n p : Nat) : Int)) ∧ p ≤ i) (G := fun i M4 => zGo Γ 66 Q 89 [some (zo 5 0 0), some (zo 8 0 0), none, none, some (zi (iz (to : Int))), some (zi (iz (nvT tp p (i - p)))), some (zi (iz (i : Int)))] [] M4) (n := to) ?_ ?_ (to - p) p (zw (zw M 5 0 6 k (iz (p : Int))) 5 0 5 k (iz ((kc tp n p : Nat) : Int))) (by omega) ⟨rfl, Nat.le_refl p⟩
      · rw [Nat.sub_self] at key
        exact key
      · rintro M4 ⟨rfl, _⟩
        refine bk_66_89 ⟨fun _ => ?_, fun q => ?_⟩
        · simp only [z7b, clk, z7c, iz_s]
          rw [q1]
          exact ⟨in5, fin1⟩
        · rw [iz_le (by omega) (by omega) (by omega) (by omega)] at q
          omega
      · rintro i M4 hi ⟨rfl, h2⟩ ih
        refine bk_66_89 ⟨fun q => ?_, fun _ => ?_⟩
        · rw [iz_le (by omega) (by omega) (by omega) (by omega)] at q
          omega
        · have dd := dig i h2 hi
          have et : (zw (zw M 5 0 6 k (iz (p : Int))) 5 0 5 k (iz ((kc tp n p : Nat) : Int))).1 8 0 1 i = iz (tp i) := by
            rw [zw_ne (by omega), zw_ne (by omega), (hT.2.2 i (by omega)).1]
            unfold sb
            rw [if_pos (by omega)]
          have := ih _ ⟨rfl, by omega⟩
          rw [show i + 1 - p = (i - p) + 1 by omega, nvT, show p + (i - p) = i by omega] at this
          rw [iz_clN (by omega), et, show (10 : Int32) = iz 10 from rfl, show (48 : Int32) = iz 48 from rfl, iz_mul, iz_add, iz_sub, iz_s, show nvT tp p (i - p) * 10 + tp i - 48 = 10 * nvT tp p (i - p) + tp i - 48 by omega]
          exact ⟨iz_inN (by omega) (by omega), this⟩
    · rw [if_pos (by omega)] at eK
      have := fin 0 (fun z => by rw [eK] at z; omega)
      rw [eK] at this
      exact this
  · -- a word
    have eR : to = rnF tp n 5 p := by
      rw [eE]
      unfold tkE
      rw [if_pos (Or.inl q5), q5]
    have rn := rnF_ok (tp := tp) (n := n) (k := 5) (p := p) (by omega) (by omega)
    rw [← eR] at rn
    have lt : ∀ i, p ≤ i → i < to → 97 ≤ tp i ∧ tp i ≤ 122 := fun i h1 h2 => by
      have kk := rn.2.2.1 i h1 h2
      have hin : i < n := by omega
      have c2 := (ck_bt (tp := tp) (n := n) (p := i) (hb255 _)).1.mp kk
      unfold btA at c2
      rw [if_pos hin] at c2
      exact c2
    have eK := tkK_5 (tp := tp) (n := n) (k := k) (by rw [hW]; exact q5)
    rw [hP, hW] at eK
    have wb := wcode_b (wl tp p (to - p))
    refine c_wordOf hsr (hT.off (P := fun c t f i => c = 5) ((Off.rf M).w _ rfl) (by intro f i; omega)) ⟨hs.2.2.1, hpl⟩ lt ⟨_, rfl, in5, ?_⟩
    simp only [z7b, clk, z5b, z7c, iz_s]
    rw [← eK] at wb ⊢
    refine ⟨in5, fun _ => ⟨in5, fin 0 (fun z => by omega)⟩, fun z => ?_⟩
    rw [iz1, iz_eq (by omega) (by omega) (by omega) (by omega)] at z
    omega
theorem c_scanTokens (hsr : zSr Γ) (hT : cTp M tp n) (h : ∀ (M' : zM) (m : Nat), Off oSc M M' → cTk M' tp n m → Q none M') : zEv Γ 65 [zo 5 0 0, zo 8 0 0] M Q := by
  have hn := hT.2.1
  have hb255 : ∀ p, p < n → 0 ≤ tp p ∧ tp p ≤ 255 := fun p hp => (hT.2.2 p hp).2
  have main : ∀ (d p k : Nat) (M1 : zM), n - p ≤ d → p ≤ n → k ≤ p → rnF tp n 4 p = tkW tp n k → Off oSc M M1 → tkU M1 tp n k → zGo Γ 65 Q 7 [some (zo 5 0 0), some (zo 8 0 0), some (zi (iz (p : Int))), none, none] [] M1 := by
    intro d
    induction d with
    | zero =>
      intro p k M1 hd hp hk hr o1 hU
      have hT1 := hT.sc o1
      have e : p = n := by omega
      subst e
      have eW : tkW tp p k = p := by
        rw [← hr]
        have := rnF_ok (tp := tp) (n := p) (k := 4) (p := p) (by omega) (Nat.le_refl p)
        omega
      have eK : tkK tp p k = 0 := tkK_0.mpr eW
      obtain ⟨u1, u2, u3, u4, u5⟩ := hU
      have in5 : vp_in (iz (k : Int)) 501 := iz_inN (by omega) (by omega)
      have clk : (iz (k : Int)).toNatClampNeg = k := iz_clN (by omega)
      have z7 : ∀ y, (zw M1 5 0 5 k y).1 5 0 0 7 = iz (k : Int) := fun y => (zw_ne (by omega)).trans u4
      have z8 : ∀ y, (zw M1 5 0 5 k y).1 8 0 0 1 = iz (p : Int) := fun y => (zw_ne (by omega)).trans hT1.1
      refine bk_65_7 ⟨fun _ => ?_, fun q => ?_⟩
      · simp only [u4, clk, z7, z8]
        refine ⟨in5, in5, h _ k ((o1.w _ (by unfold oSc; omega)).w _ (by unfold oSc; omega)) ⟨fun j hj => ?_, fun j hj => ?_, fun j hj hj1 => ?_, ?_, by omega, eK, u5, hn, hb255⟩⟩
        · by_cases e : j = k
          · subst e
            rw [zw_ne (by omega), zw_eq, eK]
            rfl
          · rw [zw_ne (by omega), zw_ne (by omega)]
            exact u1 j (by omega)
        · by_cases e : j = k
          · subst e
            rw [zw_eq, eW]
          · rw [zw_ne (by omega), zw_ne (by omega)]
            exact u2 j (by omega)
        · by_cases e : j = k
          · subst e
            omega
          · rw [zw_ne (by omega), zw_ne (by omega)]
            exact u3 j (by omega) hj1
        · rw [zw_ne (by omega), zw_ne (by omega)]
          exact u4
      · rw [hT1.1] at q
        exact absurd (by rw [iz_le (by omega) (by omega) (by omega) (by omega)]; exact Int.le_refl _) q
    | succ d ih =>
      intro p k M1 hd hp hk hr o1 hU
      by_cases e : p = n
      · exact ih p k M1 (by omega) hp hk hr o1 hU
      have hpn : p < n := by omega
      have hT1 := hT.sc o1
      have tb := hT1.2.2 p hpn
      have ekc : kc tp n p = ck (tp p) := by
        unfold kc
        rw [if_pos hpn]
      have kz : kc tp n p ≠ 0 := by
        rw [Ne, kc_0]
        omega
      have kb := kc_c tp n p
      have u4 := hU.2.2.2.1
      -- a token from p to to
      have tok : ∀ (M2 : zM) (to : Nat), M2 = M1 → kc tp n p ≠ 4 → to = tkE tp n p → zEv Γ 66 [zo 5 0 0, zo 8 0 0, zi (iz ((kc tp n p : Nat) : Int)), zi (iz (p : Int)), zi (iz (to : Int))] M2 (fun o M3 => o = none ∧ zGo Γ 65 Q 7 [some (zo 5 0 0), some (zo 8 0 0), some (zi (iz (to : Int))), none, none] [] M3) := by
        rintro M2 to rfl k4 eto
        have eW : tkW tp n k = p := by
          rw [← hr]
          exact rnF_id k4
        have eP : tkP tp n (k + 1) = to := by
          rw [eto, ← eW]
          rfl
        have te := tkE_le (tp := tp) (n := n) (w := p) hp
        refine c_addToken hsr hT1 hU hk hpn eW eP (fun M3 o3 U3 => ⟨rfl, ?_⟩)
        refine ih to (k + 1) M3 (by have := te.2.2 hpn; omega) (by omega) (by have := te.2.2 hpn; omega) ?_ (o1.tr o3) U3
        rw [← eP]
        rfl
      -- behind a run from p to to
      have aft : ∀ (M2 : zM) (to : Nat), M2 = M1 → (kc tp n p = 5 ∨ kc tp n p = 1 ∨ kc tp n p = 4) → to = rnF tp n (kc tp n p) p → ((iz ((kc tp n p : Nat) : Int) = (4 : Int32) → zGo Γ 65 Q 7 [some (zo 5 0 0), some (zo 8 0 0), some (zi (iz (to : Int))), none, none] [] M2) ∧ (¬ iz ((kc tp n p : Nat) : Int) = (4 : Int32) → (zEv Γ 66 [zo 5 0 0, zo 8 0 0, zi (iz ((kc tp n p : Nat) : Int)), zi (iz (p : Int)), zi (iz (to : Int))] M2 (fun o M3 => o = none ∧ zGo Γ 65 Q 7 [some (zo 5 0 0), some (zo 8 0 0), some (zi (iz (to : Int))), none, none] [] M3)))) := by
        rintro M2 to rfl hk5 eto
        have rn := rnF_ok (tp := tp) (n := n) (k := kc tp n p) (p := p) kz hp
        rw [← eto] at rn
        have lt : p < to := by
          apply Classical.byContradiction
          intro z
          have : to = p := by omega
          rw [this] at rn
          exact rn.2.2.2 rfl
        rw [show (iz ((kc tp n p : Nat) : Int) = (4 : Int32)) = (kc tp n p = 4) by rw [show (4 : Int32) = iz 4 from rfl, iz_eq (by omega) (by omega) (by omega) (by omega)]; exact propext ⟨fun z => by omega, fun z => by omega⟩]
        refine ⟨fun k4 => ?_, fun k4 => tok M2 to rfl k4 ?_⟩
        · rw [k4] at eto rn
          refine ih to k M2 (by omega) (by omega) (by omega) ?_ o1 hU
          rw [rnF_id rn.2.2.2, eto]
          exact hr
        · rw [eto]
          unfold tkE
          rw [if_pos (by omega)]
      -- the run
      have run : (kc tp n p = 5 ∨ kc tp n p = 1 ∨ kc tp n p = 4) → zGo Γ 65 Q 55 [some (zo 5 0 0), some (zo 8 0 0), some (zi (iz (p : Int))), some (zi (iz ((kc tp n p : Nat) : Int))), some (zi (iz ((p + 1 : Nat) : Int)))] [] M1 := fun hk5 => by
        have rn := rnF_ok (tp := tp) (n := n) (k := kc tp n p) (p := p) kz hp
        have lt : p < rnF tp n (kc tp n p) p := by
          apply Classical.byContradiction
          intro z
          have : rnF tp n (kc tp n p) p = p := by omega
          rw [this] at rn
          exact rn.2.2.2 rfl
        refine zloop (P := fun q M2 => M2 = M1 ∧ p < q) (G := fun q M2 => zGo Γ 65 Q 55 [some (zo 5 0 0), some (zo 8 0 0), some (zi (iz (p : Int))), some (zi (iz ((kc tp n p : Nat) : Int))), some (zi (iz (q : Int)))] [] M2) (n := rnF tp n (kc tp n p) p) ?_ ?_ (rnF tp n (kc tp n p) p - (p + 1)) (p + 1) M1 (by omega) ⟨rfl, by omega⟩
        · rintro M2 ⟨rfl, _⟩
          refine bk_65_55 ?_
          rw [hT1.1, iz_le (by omega) (by omega) (by omega) (by omega)]
          refine ⟨fun _ => aft M2 _ rfl hk5 rfl, fun q => ⟨iz_inN (by omega) (by omega), ?_⟩⟩
          have tq := hT1.2.2 (rnF tp n (kc tp n p) p) (by omega)
          rw [iz_clN (by omega), tq.1]
          refine c_kindOf tq.2 ⟨_, rfl, fun _ => aft M2 _ rfl hk5 rfl, fun z => ?_⟩
          have ck2 := ck_c (tp (rnF tp n (kc tp n p) p))
          rw [iz_eq (by omega) (by omega) (by omega) (by omega)] at z
          refine absurd ?_ rn.2.2.2
          show kc tp n (rnF tp n (kc tp n p) p) = kc tp n p
          have e1 : kc tp n (rnF tp n (kc tp n p) p) = ck (tp (rnF tp n (kc tp n p) p)) := by
            rw [kc, if_pos (by omega)]
          omega
        · rintro q M2 hq ⟨rfl, hpq⟩ ih2
          refine bk_65_55 ?_
          rw [hT1.1, iz_le (by omega) (by omega) (by omega) (by omega)]
          refine ⟨fun z => by omega, fun z => ⟨iz_inN (by omega) (by omega), ?_⟩⟩
          have tq := hT1.2.2 q (by omega)
          have kq := rn.2.2.1 q (by omega) hq
          have eq : kc tp n q = ck (tp q) := by
            rw [kc, if_pos (by omega)]
          rw [iz_clN (by omega), tq.1]
          refine c_kindOf tq.2 ⟨_, rfl, fun z2 => ?_, fun _ => ?_⟩
          · refine absurd ?_ z2
            rw [← eq, kq]
          · rw [iz_s]
            exact ih2 M2 ⟨rfl, by omega⟩
      refine bk_65_7 ?_
      rw [hT1.1, iz_le (by omega) (by omega) (by omega) (by omega), u4, show ((500 : Int32) ≤ iz (k : Int)) = (500 ≤ k) by rw [show (500 : Int32) = iz 500 from rfl, iz_le (by omega) (by omega) (by omega) (by omega)]; exact propext ⟨fun z => by omega, fun z => by omega⟩]
      refine ⟨fun z => by omega, fun _ => ⟨fun z => by omega, fun _ => ⟨iz_inN (by omega) (by omega), ?_⟩⟩⟩
      rw [iz_clN (by omega), tb.1]
      refine c_kindOf tb.2 ⟨_, rfl, ?_⟩
      rw [← ekc, show (iz ((kc tp n p : Nat) : Int) = (5 : Int32)) = (kc tp n p = 5) by rw [show (5 : Int32) = iz 5 from rfl, iz_eq (by omega) (by omega) (by omega) (by omega)]; exact propext ⟨fun z => by omega, fun z => by omega⟩, show (iz ((kc tp n p : Nat) : Int) = (1 : Int32)) = (kc tp n p = 1) by rw [iz1, iz_eq (by omega) (by omega) (by omega) (by omega)]; exact propext ⟨fun z => by omega, fun z => by omega⟩, show (iz ((kc tp n p : Nat) : Int) = (4 : Int32)) = (kc tp n p = 4) by rw [show (4 : Int32) = iz 4 from rfl, iz_eq (by omega) (by omega) (by omega) (by omega)]; exact propext ⟨fun z => by omega, fun z => by omega⟩, iz_s]
      refine ⟨fun z => run (Or.inl z), fun z5 => ⟨fun z => run (Or.inr (Or.inl z)), fun z1 => ⟨fun z4 => ⟨fun z => absurd z z4, fun _ => tok M1 (p + 1) rfl z4 ?_⟩, fun z => run (Or.inr (Or.inr z))⟩⟩⟩
      unfold tkE
      rw [if_neg (by omega), if_neg kz]
  have o0 : Off oSc M (zw M 5 0 0 7 0) := (Off.rf M).w _ (by unfold oSc; omega)
  refine en_65 (bk_65_0 (main n 0 0 _ (by omega) (by omega) (Nat.le_refl 0) rfl o0 ⟨fun j hj => by omega, fun j hj => by omega, fun j hj => by omega, zw_eq, fun j hj => by omega⟩))
end Za3
