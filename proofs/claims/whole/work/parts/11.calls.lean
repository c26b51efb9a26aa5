section ZR
variable {Γ : zC} {μ : Nat} {Q : zQ} {K : zK} {pc len a b : Nat} {z : Int} {L : zL} {st : List zV} {M : zM}
theorem zpop_spec : ∀ (n : Nat) (st acc as r : List zV), zpop n st acc = some (as, r) → ∃ ps : List zV, ps.length = n ∧ as = ps ++ acc ∧ st = ps.reverse ++ r
  | 0, st, acc, as, r, h => by cases h; exact ⟨[], rfl, rfl, rfl⟩
  | n + 1, [], acc, as, r, h => by cases h
  | n + 1, v :: st, acc, as, r, h => by
    obtain ⟨ps, h1, h2, h3⟩ := zpop_spec n st (v :: acc) as r h
    refine ⟨ps ++ [v], by simp [h1], by simp [h2], ?_⟩
    simp [h3]
theorem zws_good (μ ν : Nat) (hν : Cond.code (zm ν).2.2.2.2.1 (zm ν).2.1 (zm ν).2.2.1 (zm ν).2.2.2.1 ∈ WS) : GoodIn WS (zws ν) := fun w hw => by
  have : w ∈ WS := by
    rcases List.mem_cons.mp hw with h | h
    · rw [h]; exact hν
    · exact h
  exact ⟨this, good_of_word (zWSg w this)⟩
theorem zblind (Γ : zC) (av : List Value) (M : zM) : FrameBlind (va_Pc av (zI Γ M)) := fun a U g mk q => by
  obtain ⟨q0, q1, q2, q3, q4, q5⟩ := q
  exact ⟨q0, q1, va_K.moved (u := U) (U := U.calling g mk a) (Vm.Alike.refl U.vm) q2, q3, q4, q5⟩
theorem zI_at {s : State} {H : Heap} {locs : List Loc} (hP : va_P Γ.2.1 vwCl (zwd Γ M) H) (hS : va_S (zA Γ) s.heap H locs) (hK : va_K Γ.2.1 vwCl (ztys Γ) s) (hb0 : zb Γ ≤ s.heap.size) (hW0 : Γ.2.2.2.2.WarmedH s.vm) (hlow : ∀ q : Nat, q < zb Γ → s.heap[q]? = Γ.2.2.2.2.heap[q]?) {U : State} (hU : U.heap = H) (hW : s.WarmedH U.vm) : zI Γ M U :=
  ⟨by rw [hU]; exact hP, va_K.moved hW.alike hK, by rw [hU]; exact Nat.le_trans hb0 hS.1, State.WarmedH.trans hW0 hW, fun q hq => by
    rw [hU, hS.2.1 q (Nat.lt_of_lt_of_le hq hb0) (fun h => absurd hq (Nat.not_lt.mpr h))]
    exact hlow q hq⟩
/-- behind a call -/
theorem zback {p : Program} {e : Env} {s : State} {m : MethodId} {args : Array Value} {below : List Frame} {meth : Method} {c : Code} {H : Heap} {locs : List Loc} {ls : Array Slot} {st0 : List Value} {rest : List zV} {Q' : zQ} {Qw : State → Prop} {av : Array Value} {R : Room}
    (hr : va_Run p Γ.1 e R s m args below meth c H locs 0 0 0 0 (F0 m pc ls st0) (rest.map (ztv Γ)) (zQc Γ Q' av) (zA Γ)) (hS : va_S (zA Γ) s.heap H locs)
    (kk : ∀ (o : Option zV) (M' : zM) (H1 : Heap) (locs1 : List Loc), Q' o M' → (∀ v, o = some v → zok v) → va_P Γ.2.1 vwCl (zwd Γ M') H1 → va_S (zA Γ) s.heap H1 locs1 → W p Γ.1 e R s m args below meth c H1 locs1 0 0 Qw (F0 m (pc + 3) ls ((o.toList ++ rest).map (ztv Γ)))) : W p Γ.1 e R s m args below meth c H locs 0 0 Qw (F0 m pc ls st0) := by
  intro T hT X
  obtain ⟨v, st₀, t, T', L, h0, X', hL, e1, e2, ⟨⟨o, M', hv, hq, hok, hI⟩, hz, hk⟩, st⟩ := hr T hT X
  cases hv
  rw [h0] at hz hk
  obtain ⟨t2, a1, b1⟩ := kk o M' T'.heap (locs ++ L) hq hok (by rw [e1]; exact hI.1)
    ⟨Nat.le_trans hS.1 (by rw [e1]; exact hz), fun q h1 h2 => by rw [e1, hk q (Nat.lt_of_lt_of_le h1 hS.1) h2]; exact hS.2.1 q h1 h2, fun q hq => by
      rcases List.mem_append.mp hq with h | h
      · exact hS.2.2 q h
      · exact hL q h⟩ T' rfl X'
  refine ⟨t2, st t2 ?_, b1⟩
  cases o <;> exact a1
theorem zroom_spec {μ ν : Nat} (h : zroom μ ν = true) : (zrm ν).frames + 1 ≤ (zrm μ).frames ∧ 8 + ((zm ν).2.2.1 + 11) + (zrm ν).locals ≤ (zrm μ).locals := by
  obtain ⟨h1, h2⟩ := Bool.and_eq_true_iff.mp h
  exact ⟨Nat.le_of_ble_eq_true h1, Nat.le_of_ble_eq_true h2⟩
/-- a call, once its run is there: what zcall asks -/
theorem zcall_go {p : Program} {e : Env} {s : State} {m : MethodId} {args : Array Value} {below : List Frame} {meth : Method} {c : Code} {H : Heap} {locs : List Loc} {ls : Array Slot} {as r : List zV} {n : Nat}
    (h : match z with
      | 0 => zEv Γ n as M (fun o M' => o = none ∧ K (pc + 3) L r M')
      | 1 => zEv Γ n as M (fun o M' => ∃ x, o = some (zi x) ∧ K (pc + 3) L (zi x :: r) M')
      | 2 => zEv Γ n as M (fun o M' => ∃ x, o = some (zl x) ∧ K (pc + 3) L (zl x :: r) M')
      | _ => zEv Γ n as M (fun o M' => (o = some zn ∧ K (pc + 3) L (zn :: r) M') ∨ ∃ t, o = some (zo 7 t 0) ∧ K (pc + 3) L (zo 7 t 0 :: r) M'))
    (hG : zG Γ) (has : ∀ v ∈ as, zok v) (hr : ∀ v ∈ r, zok v)
    (run : ∀ Q' : zQ, Met Γ.1 (zm n).2.2.2.2.1 (zws n) (zrm n) (va_Pc (as.map (ztv Γ)) (zI Γ M)) (zQc Γ Q') 0 0 (zA Γ) → va_Run p Γ.1 e (zrm μ) s m args below meth c H locs 0 0 0 0 (F0 m pc ls (st.map (ztv Γ))) (r.map (ztv Γ)) (zQc Γ Q' (as.map (ztv Γ)).toArray) (zA Γ)) (hS : va_S (zA Γ) s.heap H locs)
    {Qw : State → Prop} (go : ∀ {st' : List zV} {M' : zM} {H' : Heap} {locs' : List Loc}, va_P Γ.2.1 vwCl (zwd Γ M') H' → va_S (zA Γ) s.heap H' locs' → K (pc + 3) L st' M' → (∀ v ∈ st', zok v) → W p Γ.1 e (zrm μ) s m args below meth c H' locs' 0 0 Qw (F0 m (pc + 3) ls (st'.map (ztv Γ)))) :
    W p Γ.1 e (zrm μ) s m args below meth c H locs 0 0 Qw (F0 m pc ls (st.map (ztv Γ))) := by
  have all : ∃ Q' : zQ, zEv Γ n as M Q' ∧ ∀ o M', Q' o M' → K (pc + 3) L (o.toList ++ r) M' := by
    split at h
    · refine ⟨_, h, fun o M' hq => ?_⟩
      obtain ⟨rfl, hq⟩ := hq
      exact hq
    · refine ⟨_, h, fun o M' hq => ?_⟩
      obtain ⟨x, rfl, hq⟩ := hq
      exact hq
    · refine ⟨_, h, fun o M' hq => ?_⟩
      obtain ⟨x, rfl, hq⟩ := hq
      exact hq
    · refine ⟨_, h, fun o M' hq => ?_⟩
      rcases hq with ⟨rfl, hq⟩ | ⟨t, rfl, hq⟩
      · exact hq
      · exact hq
  obtain ⟨Q', hE, hQ'⟩ := all
  refine zback (run Q' (hE has hG)) hS (fun o M' H1 locs1 hq hok hP1 hS1 => go hP1 hS1 (hQ' o M' hq) ?_)
  cases o with
  | none => exact hr
  | some v => exact zokc (hok v rfl) hr
theorem zs_call {i : Instr} (hme : ∀ n, n < znm → zmeOK (zm n)) (hi : zPre Γ μ Q K pc len a b z i) (h : zstep i a b z pc L st M (zEv Γ) Q K) (hp : match i with
  | .invokevirtual _ | .invokestatic _ => True
  | _ => False) : zGo Γ μ Q pc L st M := by
  intro p e s m args below meth c H locs ls hG hC hP hS hl hn hLo hst
  have hCx := hC
  obtain ⟨hx, hb, hml, hown, hts, hr, hlocks, hK, hb0, hW0, hlow⟩ := hC
  have hcl : (zm μ).1 < 12 := zms_cl μ hi.1
  have hD := zwd_D (M := M) hG
  have hlsz : ls.size = (zm μ).2.2.1 := hl.1.trans hn
  have go : ∀ {pc' : Nat} {st' : List zV} {M' : zM} {H' : Heap} {locs' : List Loc}, va_P Γ.2.1 vwCl (zwd Γ M') H' → va_S (zA Γ) s.heap H' locs' → K pc' L st' M' → (∀ v ∈ st', zok v) → W p Γ.1 e (zrm μ) s m args below meth c H' locs' 0 0 (MQ below (zQc Γ Q) args s 0 0 (zA Γ)) (F0 m pc' ls (st'.map (ztv Γ))) := fun h1 h2 hk hs => hi.2.2 _ _ _ _ hk p e s m args below meth c _ _ ls hG hCx h1 h2 hl hn hLo hs
  cases i <;> (try exact hp.elim)
  case invokevirtual idx =>
    obtain ⟨h0, h⟩ := zbif h
    have hk := (Bool.or_eq_true_iff.mp (Bool.and_eq_true_iff.mp hi.lk).2).resolve_left (by rw [h0]; decide)
    obtain ⟨hk, hk5⟩ := Bool.and_eq_true_iff.mp hk
    obtain ⟨hk, hk4⟩ := Bool.and_eq_true_iff.mp hk
    obtain ⟨hk, hk3⟩ := Bool.and_eq_true_iff.mp hk
    obtain ⟨hk1, hk2⟩ := Bool.and_eq_true_iff.mp hk
    have hk2 := zblt hk2
    have hk3 : (zm a).2.2.2.2.2.2.1 = false := by simpa using hk3
    have hk4 : b = (zm a).2.2.2.2.2.1 + 1 := Nat.eq_of_beq_eq_true hk4
    obtain ⟨m1, m2, ⟨m3, m4, m5, m6⟩, m7, m8⟩ := hme a hk2
    rw [hk3] at m8
    unfold zcall at h
    cases hz : zpop b st [] with
    | none => rw [hz] at h; exact h.elim
    | some q =>
      obtain ⟨as, r⟩ := q
      rw [hz] at h
      obtain ⟨hw8, h⟩ := zbif h
      obtain ⟨hw7, hrc⟩ := Bool.and_eq_true_iff.mp hw8
      have hw9 : zwds r ≤ 8 := Nat.le_of_ble_eq_true hw7
      have hrc : zrcv (zm a).1 as = true := hrc
      obtain ⟨ps, e1, e2, e3⟩ := zpop_spec _ _ _ _ _ hz
      rw [List.append_nil] at e2
      subst e2
      have hps : ∀ v ∈ as, zok v := fun v hv => hst v (by rw [e3]; exact List.mem_append_left _ (List.mem_reverse.mpr hv))
      have hrs : ∀ v ∈ r, zok v := fun v hv => hst v (by rw [e3]; exact List.mem_append_right _ hv)
      rcases as with _ | ⟨o, As⟩
      · cases hrc
      · rcases o with x | x | _ | ⟨c', t, f⟩
        · cases hrc
        · cases hrc
        · cases hrc
        · cases f with
          | succ f => cases hrc
          | zero =>
            have hc : c' = (zm a).1 := Nat.eq_of_beq_eq_true hrc
            have hm := hps _ List.mem_cons_self _ rfl
            obtain ⟨q0, g1, g2⟩ := zwd_at (Γ := Γ) (M := M) hm
            obtain ⟨cellB, c1, c2, c3⟩ := va_recv hK hP (zcl (zparts_cl _ hm)) (show (zwd Γ M)[q0]? = some (Γ.2.2.2.1 (c', t, 0), .inr (c', zfs Γ M c' t)) from g2)
            refine zcall_go (n := a) (r := r) h hG hps hrs (fun Q' hM => ?_) hS go
            have hgood : GoodIn WS (zws a) := zws_good μ a m1
            have hrun := va_runV (y := (zm a).2.2.2.2.1) (C := (zm a).2.2.2.2.1.cls) (As := As.map (ztv Γ)) (b := Γ.2.2.2.1 (c', t, 0)) (rest := r.map (ztv Γ)) (g := F0 m pc ls (st.map (ztv Γ))) (cells := 0) (slots := 0) (e := e) (below := below) (meth := meth) (locs := locs) (H := H)
              ⟨hx, hb, hml, hown, hts⟩ hM (n := (zm a).2.2.2.2.2.1) (index := idx) (bytes := (zm a).2.1) (maxL := (zm a).2.2.1) (ret := (zm a).2.2.2.1) (R := zrm μ)
              ⟨callB_of _ hts hgood rfl rfl rfl (hts _ m2) (hts _ (zmlok hcl (idx, a) (List.contains_iff_mem.mp hk1))) ⟨m5, m6, m7⟩ (zroom_spec hk5), hts _ m8.1, hts _ m8.2⟩
              ⟨zblind Γ _ M, ⟨cellB, c1, c2, by rw [m3, ← hc]; exact c3⟩, fun U hU hW => ⟨rfl, zI_at hP hS hK hb0 hW0 hlow hU hW⟩⟩
              rfl (by have : As.length + 1 = b := e1; rw [List.length_map]; omega) hlsz (by
                show st.map (ztv Γ) = _
                rw [e3]
                simp only [List.reverse_cons, List.append_assoc, List.map_append, List.map_reverse]
                rfl) (lv_room (by rw [zwds_sum]; exact hw9)) (hi.d rfl (by decide)) ⟨Nat.le_refl _, Nat.le_refl _⟩
            exact hrun
  case invokestatic idx =>
    by_cases hb1000 : Nat.blt a 1000 = true
    · have h : zcall false a b z pc L st M (zEv Γ) K := by
        have h' : (bif Nat.blt a 1000 then zcall false a b z pc L st M (zEv Γ) K else _) := h
        rw [hb1000] at h'
        exact h'
      have hk := (Bool.or_eq_true_iff.mp (Bool.and_eq_true_iff.mp hi.lk).2).resolve_right (by rw [hb1000]; simp)
      obtain ⟨hk, hk5⟩ := Bool.and_eq_true_iff.mp hk
      obtain ⟨hk, hk4⟩ := Bool.and_eq_true_iff.mp hk
      obtain ⟨hk, hk3⟩ := Bool.and_eq_true_iff.mp hk
      obtain ⟨hk, hk2⟩ := Bool.and_eq_true_iff.mp hk
      obtain ⟨-, hk1⟩ := Bool.and_eq_true_iff.mp hk
      have hk2 := zblt hk2
      have hk4 : b = (zm a).2.2.2.2.2.1 := Nat.eq_of_beq_eq_true hk4
      obtain ⟨m1, m2, ⟨m3, m4, m5, m6⟩, m7, m8⟩ := hme a hk2
      rw [hk3] at m8
      unfold zcall at h
      cases hz : zpop b st [] with
      | none => rw [hz] at h; exact h.elim
      | some q =>
        obtain ⟨as, r⟩ := q
        rw [hz] at h
        obtain ⟨hw8, h⟩ := zbif h
        have hw8 := Nat.le_of_ble_eq_true (Bool.and_eq_true_iff.mp hw8).1
        obtain ⟨ps, e1, e2, e3⟩ := zpop_spec _ _ _ _ _ hz
        rw [List.append_nil] at e2
        subst e2
        have hps : ∀ v ∈ as, zok v := fun v hv => hst v (by rw [e3]; exact List.mem_append_left _ (List.mem_reverse.mpr hv))
        have hrs : ∀ v ∈ r, zok v := fun v hv => hst v (by rw [e3]; exact List.mem_append_right _ hv)
        refine zcall_go (n := a) (r := r) h hG hps hrs (fun Q' hM => ?_) hS go
        have hgood : GoodIn WS (zws a) := zws_good μ a m1
        exact va_runS (y := (zm a).2.2.2.2.1) (As := as.map (ztv Γ)) (rest := r.map (ztv Γ)) (g := F0 m pc ls (st.map (ztv Γ))) (cells := 0) (slots := 0) (e := e) (below := below) (meth := meth) (locs := locs) (H := H)
              ⟨hx, hb, hml, hown, hts⟩ hM (n := (zm a).2.2.2.2.2.1) (index := idx) (bytes := (zm a).2.1) (maxL := (zm a).2.2.1) (ret := (zm a).2.2.2.1) (R := zrm μ)
              ⟨callB_of _ hts hgood rfl rfl rfl (hts _ m2) (hts _ (zmlok hcl (idx, a) (List.contains_iff_mem.mp hk1))) ⟨m5, m6, m7⟩ (zroom_spec hk5), hts _ m8⟩
              ⟨zblind Γ _ M, fun U hU hW => ⟨rfl, zI_at hP hS hK hb0 hW0 hlow hU hW⟩⟩
              rfl (by rw [List.length_map]; omega) hlsz (by
                show st.map (ztv Γ) = _
                rw [e3]
                simp only [List.map_append, List.map_reverse]) (lv_room (by rw [zwds_sum]; exact hw8)) (hi.d rfl (by decide)) ⟨Nat.le_refl _, Nat.le_refl _⟩
    · have hb0' : Nat.blt a 1000 = false := Bool.eq_false_iff.mpr hb1000
      have hk := (Bool.or_eq_true_iff.mp (Bool.and_eq_true_iff.mp hi.lk).2).resolve_left (by rw [hb0']; simp)
      obtain ⟨hk, hk4⟩ := Bool.and_eq_true_iff.mp hk
      obtain ⟨hk, hk3⟩ := Bool.and_eq_true_iff.mp hk
      obtain ⟨-, hk2⟩ := Bool.and_eq_true_iff.mp hk
      have hk3 : 1 ≤ (zrm μ).frames := Nat.le_of_ble_eq_true hk3
      have hk4 : 26 ≤ (zrm μ).locals := Nat.le_of_ble_eq_true hk4
      have hlink := hts _ (zslok hcl (idx, a) (List.contains_iff_mem.mp hk2))
      dsimp only [zstep] at h
      rw [hb0'] at h
      dsimp only [cond_false] at h
      split at h
      · obtain ⟨x, y, r, rfl, h⟩ := zs2_spec h
        obtain ⟨hw8, h⟩ := zbif h
        have hw8 := Nat.le_of_ble_eq_true hw8
        exact va_mmax hx hb (hml.trans hlsz.symm) hown hlink (hts _ zw_max.1.1) (hts _ zw_max.1.2) (hts _ zw_max.2) hk3 (by rw [zwds_sum]; omega) (Nat.zero_le _) (Nat.zero_le _) (hi.d rfl (by decide)) (go hP hS h (zokc (zok_i _) (zokt (zokt hst))))
      · obtain ⟨x, y, r, rfl, h⟩ := zs2_spec h
        obtain ⟨hw8, h⟩ := zbif h
        have hw8 := Nat.le_of_ble_eq_true hw8
        have hmn : (if x < y then x else y) = (if y < x then y else x) := by
          by_cases q1 : x < y
          · rw [if_pos q1, if_neg]
            rw [Int32.lt_iff_toInt_lt] at q1 ⊢
            omega
          · rw [if_neg q1]
            by_cases q2 : y < x
            · rw [if_pos q2]
            · rw [if_neg q2]
              rw [Int32.lt_iff_toInt_lt] at q1 q2
              exact Int32.toInt_inj.mp (by omega)
        rw [hmn] at h
        exact va_mmin hx hb (hml.trans hlsz.symm) hown hlink (hts _ zw_min.1) (hts _ zw_max.1.2) (hts _ zw_min.2) hk3 (by rw [zwds_sum]; omega) (Nat.zero_le _) (Nat.zero_le _) (hi.d rfl (by decide)) (go hP hS h (zokc (zok_i _) (zokt (zokt hst))))
      · split at h
        · next n dp c' t f sp c0 t0 f0 r h =>
          obtain ⟨hw8, h⟩ := zbif h
          have hw8 := Nat.le_of_ble_eq_true hw8
          have hmd := zokh (zokt (zokt hst)) _ rfl
          have hms := zokh (zokt (zokt (zokt (zokt hst)))) _ rfl
          obtain ⟨q1, g1, g2⟩ := zwd_at (Γ := Γ) (M := M) hmd
          obtain ⟨q0, g3, g4⟩ := zwd_at (Γ := Γ) (M := M) hms
          have hrest := zokt (zokt (zokt (zokt (zokt hst))))
          have g5 : ∀ M', zent Γ M' (c', t, f) = (match zar c' f with
            | some q => .inl (zac Γ c' q.1, q.2, zcont Γ M' q.1 c' t f)
            | none => .inr (c', zfs Γ M' c' t)) := fun _ => rfl
          unfold zent at g2 g4
          dsimp only at g2 g4
          have hwds : ((r.map (ztv Γ)).map fun v => v.category).sum + (nativeFrameWords "java/lang/System" "arraycopy" 5 + 11) ≤ (zrm μ).locals := by
            rw [zwds_sum, show nativeFrameWords "java/lang/System" "arraycopy" 5 = 7 from by decide]
            omega
          split at h
          · next n0 n1 hz0 hz1 =>
            obtain ⟨k1, k2, k3, k4, k5, h⟩ := h
            have hf0 : f ≠ 0 := fun q => by rw [q, zar_0] at hz1; cases hz1
            rw [hz1] at g2 g5
            rw [hz0] at g4
            refine va_copyi hx hb (hml.trans hlsz.symm) hown hlink (hts _ zw_cpy.1) (hts _ zw_cpy.2.1) (hts _ zw_cpy.2.2) hK hP hD hS q0 q1 0 0 g4 g2 rfl rfl rfl k1 k2 k3 k4 k5 (fun _ _ => rfl) hk3 hwds (hi.d rfl (by decide)) (fun H1 locs1 hP1 _ hS1 => ?_)
            rw [← zcp_arr M c0 t0 f0 c' t f] at hP1
            have hP2 : va_P Γ.2.1 vwCl ((zwd Γ M).set q1 (Γ.2.2.2.1 (c', t, f), zent Γ (zcp M c0 t0 f0 c' t f sp.toNatClampNeg dp.toNatClampNeg n.toNatClampNeg) (c', t, f))) H1 := by rw [g5]; exact hP1
            rw [zwd_set g1 rfl (zent_cp hf0)] at hP2
            exact go hP2 hS1 h hrest
          · next n0 n1 hz0 hz1 =>
            obtain ⟨k1, k2, k3, k4, k5, k6, h⟩ := h
            have hf0 : f ≠ 0 := fun q => by rw [q, zar_0] at hz1; cases hz1
            rw [hz1] at g2 g5
            rw [hz0] at g4
            refine va_copyi hx hb (hml.trans hlsz.symm) hown hlink (hts _ zw_cpy.1) (hts _ zw_cpy.2.1) (hts _ zw_cpy.2.2) hK hP hD hS q0 q1 3 3 g4 g2 rfl rfl rfl k1 k2 k3 k4 k5 k6 hk3 hwds (hi.d rfl (by decide)) (fun H1 locs1 hP1 _ hS1 => ?_)
            rw [← zcp_arr M c0 t0 f0 c' t f] at hP1
            have hP2 : va_P Γ.2.1 vwCl ((zwd Γ M).set q1 (Γ.2.2.2.1 (c', t, f), zent Γ (zcp M c0 t0 f0 c' t f sp.toNatClampNeg dp.toNatClampNeg n.toNatClampNeg) (c', t, f))) H1 := by rw [g5]; exact hP1
            rw [zwd_set g1 rfl (zent_cp hf0)] at hP2
            exact go hP2 hS1 h hrest
          · exact h.elim
        · exact h.elim
      · exact h.elim
end ZR
