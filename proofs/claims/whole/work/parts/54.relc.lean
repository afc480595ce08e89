/-! release: the class, and the case -/
theorem CPk.fr {I I' : MI} {p : Nat} {T : Tx} {A : Fl} {w : Nat} {l : List Nat} (h : CPk I p T A w l) (e : ∀ r, r < 9 → I' (p + r) = I (p + r)) : CPk I' p T A w l := by
  have e0 := e 0 (by omega)
  rw [Nat.add_zero] at e0
  unfold CPk at *
  rw [e0, e 1 (by omega), e 2 (by omega), e 3 (by omega), e 7 (by omega), e 8 (by omega)]
  exact h
theorem lg1_c {ni f t p w : Nat} {I : MI} {T : Tx} {A : Fl} (hT : GT T) (hd : t + 10 ≤ f ∨ f + 10 ≤ t) (hp : p + 9 ≤ f ∨ f + 10 ≤ p) (hw : Wok T A w) (c1 : CT I t T) (c2 : CG ni I f A) (g : GH T A) (h0 : I p 0 = nI w) (h3 : ∀ c, c < 160 → I (p + 3) c = nI (shc T A w c)) : Ok (lp (b_X0_letGo_2 f t p) (0, I)) (fun r => CG ni r.2 f (mkR A (flS A) (fun o => if w.testBit o then 1 else flW A o) (fun c => if w.testBit (c / 10) then tiN T c - shc T A w c else flL A c) (flB A)) ∧ r.2 (f + 9) = I (f + 9) ∧ r.2 f 12 = I f 12 ∧ Fo f I r.2) := by
  have hI := hT.1
  have hO := hT.2.1
  have ag0 : Ag ni A (mkR A (flS A) (fun q => if q < 0 ∧ w.testBit q = true then 1 else flW A q) (fun c => if c / 10 < 0 ∧ w.testBit (c / 10) = true then tiN T c - shc T A w c else flL A c) (flB A)) := by
    refine ⟨fun _ _ => rfl, fun q _ => ?_, fun _ _ => rfl, fun _ _ => rfl, fun _ _ => rfl, fun c _ => ?_, rfl, rfl, rfl⟩
    · show flW A q = if q < 0 ∧ w.testBit q = true then 1 else flW A q
      rw [if_neg (by omega)]
    · show flL A c = if c / 10 < 0 ∧ w.testBit (c / 10) = true then tiN T c - shc T A w c else flL A c
      rw [if_neg (by omega)]
  refine ok_up (tiO T) (fun o s => ∃ I', s = (nI o, I') ∧ CG ni I' f (mkR A (flS A) (fun q => if q < o ∧ w.testBit q = true then 1 else flW A q) (fun c => if c / 10 < o ∧ w.testBit (c / 10) = true then tiN T c - shc T A w c else flL A c) (flB A)) ∧ I' (f + 9) = I (f + 9) ∧ I' f 12 = I f 12 ∧ Fo f I I') (fun o s ho hs => ?_) (fun s hs => ?_) 0 _ (by omega) ⟨I, rfl, c2.eq ag0, rfl, rfl, Fo.rf⟩
  · obtain ⟨I', rfl, q1, q2, q3, q4⟩ := hs
    refine ok_pos (by dsimp only; rw [q4 t (by omega), c1.1.2.1]; exact nI_lt ho (by omega)) ?_
    dsimp only
    rw [q4 p (by omega), h0]
    refine ok_bs (hb_s hw.1 (by omega)) ?_
    cases hb : w.testBit o
    · refine ok_bs (it_p (by simp) rfl) (ok_some ⟨I', by rw [nI_1], q1.eq ⟨fun _ _ => rfl, fun q _ => ?_, fun _ _ => rfl, fun _ _ => rfl, fun _ _ => rfl, fun c _ => ?_, rfl, rfl, rfl⟩, q2, q3, q4⟩)
      · show (if q < o ∧ w.testBit q = true then 1 else flW A q) = if q < o + 1 ∧ w.testBit q = true then 1 else flW A q
        by_cases e : q = o
        · rw [e, hb]; simp
        · have : q < o + 1 ↔ q < o := by omega
          simp [this]
      · show (if c / 10 < o ∧ w.testBit (c / 10) = true then tiN T c - shc T A w c else flL A c) = if c / 10 < o + 1 ∧ w.testBit (c / 10) = true then tiN T c - shc T A w c else flL A c
        by_cases e : c / 10 = o
        · rw [e, hb]; simp
        · have : c / 10 < o + 1 ↔ c / 10 < o := by omega
          simp [this]
    · have hW0 := (hw.2 o hb).2
      refine ok_bind (P := fun I'' : MI => CG ni I'' f (mkR A (flS A) (fun q => if q < o + 1 ∧ w.testBit q = true then 1 else flW A q) (fun c => if c / 10 < o + 1 ∧ w.testBit (c / 10) = true then tiN T c - shc T A w c else flL A c) (flB A)) ∧ I'' (f + 9) = I (f + 9) ∧ I'' f 12 = I f 12 ∧ Fo f I I'') (ok_neg (by simp) (ok_wr o rfl (by omega) (by omega) (ok_bind (P := fun s : Int32 × MI => CG ni s.2 f (mkR A (flS A) (fun q => if q < o + 1 ∧ w.testBit q = true then 1 else flW A q) (fun c => if c / 10 < o + 1 ∧ w.testBit (c / 10) = true then tiN T c - shc T A w c else flL A c) (flB A)) ∧ s.2 (f + 9) = I (f + 9) ∧ s.2 f 12 = I f 12 ∧ Fo f I s.2) (ok_up (tiI T) (fun j s => ∃ I'', s = (nI j, I'') ∧ CG ni I'' f (mkR A (flS A) (fun q => if q < o + 1 ∧ w.testBit q = true then 1 else flW A q) (fun c => if (c / 10 < o ∨ c / 10 = o ∧ c % 10 < j) ∧ w.testBit (c / 10) = true then tiN T c - shc T A w c else flL A c) (flB A)) ∧ I'' (f + 9) = I (f + 9) ∧ I'' f 12 = I f 12 ∧ Fo f I I'') (fun j s hj hs => ?_) (fun s hs => ?_) 0 _ (by omega) ⟨_, rfl, ?_, ?_, ?_, q4.tr (Fo.ms (by omega))⟩) (fun s hs => ok_some hs)))) (fun I'' hI'' => ok_some ⟨I'', by rw [nI_1], hI''⟩)
      · obtain ⟨I'', rfl, r1, r2, r3, r4⟩ := hs
        have hcl : f_X4_cell (nI o) (nI j) = some (nI (10 * o + j)) := congrArg some (ci_c _ _)
        refine ok_pos (by dsimp only; rw [r4 t (by omega), c1.1.1]; exact nI_lt hj (by omega)) (ok_bs hcl (ok_bs (rd_v (v := nI (tiN T (10 * o + j))) (10 * o + j) rfl (by omega) (by omega) (by dsimp only; rw [r4 _ (by omega)]; exact c1.2.2.2.1 _ (by omega))) (ok_bs (rd_v (v := nI (shc T A w (10 * o + j))) (10 * o + j) rfl (by omega) (by omega) (by dsimp only; rw [r4 _ (by omega)]; exact h3 _ (by omega))) ?_)))
        rw [nI_sub (shc_le hT)]
        refine ok_wr (10 * o + j) rfl (by omega) (by omega) (ok_some ⟨_, by rw [nI_1], ?_, ?_, ?_, r4.tr (Fo.ms (by omega))⟩)
        · refine (r1.sL (k := 10 * o + j) (v := tiN T (10 * o + j) - shc T A w (10 * o + j))).eq ⟨fun _ _ => rfl, fun _ _ => rfl, fun _ _ => rfl, fun _ _ => rfl, fun _ _ => rfl, fun c hc => ?_, rfl, rfl, rfl⟩
          show pu (fun c => if (c / 10 < o ∨ c / 10 = o ∧ c % 10 < j) ∧ w.testBit (c / 10) = true then tiN T c - shc T A w c else flL A c) (10 * o + j) (tiN T (10 * o + j) - shc T A w (10 * o + j)) c = if (c / 10 < o ∨ c / 10 = o ∧ c % 10 < j + 1) ∧ w.testBit (c / 10) = true then tiN T c - shc T A w c else flL A c
          by_cases e : c = 10 * o + j
          · rw [e, pu_s, if_pos ⟨Or.inr ⟨by omega, by omega⟩, by rw [show (10 * o + j) / 10 = o by omega]; exact hb⟩]
          · rw [pu_n e]
            have : (c / 10 < o ∨ c / 10 = o ∧ c % 10 < j + 1) ↔ (c / 10 < o ∨ c / 10 = o ∧ c % 10 < j) := by omega
            simp only [this]
        · rw [mst_row _ _ _ (by omega)]; exact r2
        · rw [mst_ne _ _ (Or.inl (by omega))]; exact r3
      · obtain ⟨I'', rfl, r1, r2, r3, r4⟩ := hs
        refine ok_neg (by dsimp only; rw [r4 t (by omega), c1.1.1]; exact nI_nlt (Nat.le_refl _) (by omega)) (ok_some ⟨r1.eq ⟨fun _ _ => rfl, fun _ _ => rfl, fun _ _ => rfl, fun _ _ => rfl, fun _ _ => rfl, fun c hc => ?_, rfl, rfl, rfl⟩, r2, r3, r4⟩)
        show (if (c / 10 < o ∨ c / 10 = o ∧ c % 10 < tiI T) ∧ w.testBit (c / 10) = true then tiN T c - shc T A w c else flL A c) = if c / 10 < o + 1 ∧ w.testBit (c / 10) = true then tiN T c - shc T A w c else flL A c
        by_cases e : c / 10 = o ∧ tiI T ≤ c % 10
        · have hn := (hT.2.2.2.2.2.2.2.1 c hc).2 (Or.inr e.2)
          have hr := g.2.2.2.1 c hc
          have : rel T A c = 0 := by unfold rel; rw [e.1, if_pos hW0]
          have hl : flL A c = 0 := by omega
          rw [hl, hn]
          simp
        · have : (c / 10 < o ∨ c / 10 = o ∧ c % 10 < tiI T) ↔ c / 10 < o + 1 := by omega
          simp only [this]
      · refine (q1.sW (k := o) (v := 1)).eq ⟨fun _ _ => rfl, fun q hq => ?_, fun _ _ => rfl, fun _ _ => rfl, fun _ _ => rfl, fun c hc => ?_, rfl, rfl, rfl⟩
        · show pu (fun q => if q < o ∧ w.testBit q = true then 1 else flW A q) o 1 q = if q < o + 1 ∧ w.testBit q = true then 1 else flW A q
          by_cases e : q = o
          · rw [e, pu_s, if_pos ⟨by omega, hb⟩]
          · rw [pu_n e]
            have : q < o + 1 ↔ q < o := by omega
            simp only [this]
        · show (if c / 10 < o ∧ w.testBit (c / 10) = true then tiN T c - shc T A w c else flL A c) = if (c / 10 < o ∨ c / 10 = o ∧ c % 10 < 0) ∧ w.testBit (c / 10) = true then tiN T c - shc T A w c else flL A c
          have : (c / 10 < o ∨ c / 10 = o ∧ c % 10 < 0) ↔ c / 10 < o := by omega
          simp only [this]
      · rw [mst_row _ _ _ (by omega)]; exact q2
      · rw [mst_ne _ _ (Or.inl (by omega))]; exact q3
  · obtain ⟨I', rfl, q1, q2, q3, q4⟩ := hs
    refine ok_neg (by dsimp only; rw [q4 t (by omega), c1.1.2.1]; exact nI_nlt (Nat.le_refl _) (by omega)) (ok_some ⟨q1.eq ⟨fun _ _ => rfl, fun q _ => ?_, fun _ _ => rfl, fun _ _ => rfl, fun _ _ => rfl, fun c _ => ?_, rfl, rfl, rfl⟩, q2, q3, q4⟩)
    · show (if q < tiO T ∧ w.testBit q = true then 1 else flW A q) = if w.testBit q = true then 1 else flW A q
      cases hb : w.testBit q
      · simp
      · simp [(hw.2 q hb).1]
    · show (if c / 10 < tiO T ∧ w.testBit (c / 10) = true then tiN T c - shc T A w c else flL A c) = if w.testBit (c / 10) = true then tiN T c - shc T A w c else flL A c
      cases hb : w.testBit (c / 10)
      · simp
      · simp [(hw.2 _ hb).1]
theorem bie_mono {T : Tx} {w i u : Nat} : ∀ k e, (bie T w i u e).length ≤ (bie T w i u (e + k)).length := by
  intro k
  induction k with
  | zero => intro e; exact Nat.le_refl _
  | succ k ih =>
    intro e
    have := ih e
    rw [← Nat.add_assoc, bie, List.length_append]
    omega
theorem lg2_c {ni f t p w : Nat} {T : Tx} {A0 : Fl} {l : List Nat} (hT : GT T) (hni : tiI T ≤ ni) (hd : t + 10 ≤ f ∨ f + 10 ≤ t) (hp : p + 9 ≤ f ∨ f + 10 ≤ p) (hll : l.length ≤ 10) : ∀ (rest dn : List Nat) (I : MI) (X : Fl), l = dn ++ rest → rest.Nodup → (∀ i, i ∈ rest → i < tiI T) → CT I t T → CG ni I f X → CPk I p T A0 w l → flT X + (flB X).length + (bil T A0 w rest).length ≤ 864 → (∀ i, i ∈ rest → flS X i = flS A0 i ∧ flS X i ≤ 99) → Ok (lp (b_X0_letGo_84 f t p) (nI dn.length, I)) (fun r => ∃ Y, CG ni r.2 f Y ∧ Sm X Y ∧ flL Y = flL X ∧ (∀ i, flS Y i = if i ∈ rest then flS X i - un T A0 w i else flS X i) ∧ flB Y = flB X ++ bil T A0 w rest ∧ r.2 (f + 9) = I (f + 9) ∧ r.2 f 12 = I f 12 ∧ Fo f I r.2) := by
  have hI := hT.1
  have hO := hT.2.1
  intro rest
  induction rest with
  | nil =>
    intro dn I X hl hn hr cT cC cP hroom hS
    rw [List.append_nil] at hl
    subst hl
    exact Ok.mk (lp_done (it_n (by dsimp only; rw [cP.2.1]; exact nI_nlt (Nat.le_refl _) (by omega)) rfl)) ⟨X, cC, ⟨rfl, rfl, rfl, rfl, rfl, rfl, rfl⟩, rfl, fun i => by rw [if_neg (by simp)], by rw [bil, List.append_nil], rfl, rfl, Fo.rf⟩
  | cons i rest ih =>
    intro dn I X hl hn hr cT cC cP hroom hS
    obtain ⟨hj, hn'⟩ := List.nodup_cons.mp hn
    have hi := hr i (List.mem_cons_self ..)
    have hli : l[dn.length]? = some i := by rw [hl, List.getElem?_append_right (Nat.le_refl _), Nat.sub_self]; rfl
    have hlt := ls_lt hli
    have f1 := cP.2.2.1 _ _ hli
    have f2 := cP.2.2.2.1 dn.length (un T A0 w i) (by rw [List.getElem?_map, hli]; rfl)
    rw [Nat.zero_add] at f1 f2
    have hSi := hS i (List.mem_cons_self ..)
    have hle : un T A0 w i ≤ flS X i := by rw [hSi.1]; exact Nat.min_le_right _ _
    rw [bil, List.length_append] at hroom
    have w1 := cC.sS (k := i) (v := flS X i - un T A0 w i)
    refine (?_ : Ok (lp (b_X0_letGo_84 f t p) (nI dn.length, I)) _)
    have step : Ok (b_X0_letGo_84 f t p (nI dn.length, I)) (fun q => ∃ I', q = .inl (nI (dn ++ [i]).length, I') ∧ CG ni I' f (setT (setS X i (flS X i - un T A0 w i)) (flT X) (flB X ++ bie T w i (un T A0 w i) (tiO T))) ∧ I' (f + 9) = I (f + 9) ∧ I' f 12 = I f 12 ∧ Fo f I I') := by
      refine ok_pos (by dsimp only; rw [cP.2.1]; exact nI_lt hlt (by omega)) (ok_bs (rd_v _ rfl (by omega) (by omega) f1) (ok_bs (rd_v i rfl (by omega) (by omega) (cC.1 i (by omega))) (ok_bs (rd_v _ rfl (by omega) (by omega) f2) ?_)))
      rw [nI_sub hle]
      refine ok_wr i rfl (by omega) (by omega) ?_
      refine ok_bind (P := fun s : Int32 × MI => CG ni s.2 f (setT (setS X i (flS X i - un T A0 w i)) (flT X) (flB X ++ bie T w i (un T A0 w i) (tiO T))) ∧ s.2 (f + 9) = I (f + 9) ∧ s.2 f 12 = I f 12 ∧ Fo f I s.2) (ok_up (tiO T) (fun e s => ∃ I', s = (nI e, I') ∧ CG ni I' f (setT (setS X i (flS X i - un T A0 w i)) (flT X) (flB X ++ bie T w i (un T A0 w i) e)) ∧ I' (f + 9) = I (f + 9) ∧ I' f 12 = I f 12 ∧ Fo f I I') (fun e s he hs => ?_) (fun s hs => ?_) 0 _ (by omega) ⟨_, rfl, ?_, ?_, ?_, Fo.ms (by omega)⟩) (fun s hs => ok_some ⟨s.2, ?_, hs⟩)
      · obtain ⟨I', rfl, r1, r2, r3, r4⟩ := hs
        have hE := tE_lt hT he
        have hcl : f_X4_cell (nI (tiE T e)) (nI i) = some (nI (10 * tiE T e + i)) := congrArg some (ci_c _ _)
        have hmono := bie_mono (T := T) (w := w) (i := i) (u := un T A0 w i) (tiO T - (e + 1)) (e + 1)
        rw [show e + 1 + (tiO T - (e + 1)) = tiO T by omega, bie, List.length_append, List.length_replicate] at hmono
        refine ok_pos (by dsimp only; rw [r4 t (by omega), cT.1.2.1]; exact nI_lt he (by omega)) (ok_bs (rd_v (v := nI (tiE T e)) e rfl (by omega) (by omega) (by dsimp only; rw [r4 _ (by omega)]; exact cT.2.2.2.2.2.2 e he)) (ok_bs hcl (ok_bs (rd_v (v := nI (gv T w i (un T A0 w i) e)) (10 * tiE T e + i) rfl (by omega) (by omega) (by dsimp only; rw [r4 _ (by omega), cP.2.2.2.2.1 _ (by omega), shc_e hT he (by omega)])) (ok_bind (pb_l (c := 10 * tiE T e + i) (n := gv T w i (un T A0 w i) e) r1 (by show flT X + (flB X ++ bie T w i (un T A0 w i) e).length + _ ≤ 864; rw [List.length_append]; omega)) (fun I2 hI2 => ok_some ?_)))))
        obtain ⟨p1, p2, p3, p4⟩ := hI2
        refine ⟨I2, by rw [nI_1], ?_, by rw [p2]; exact r2, by rw [p3]; exact r3, r4.tr p4⟩
        rw [bie, ← List.append_assoc]
        exact p1
      · obtain ⟨I', rfl, r1, r2, r3, r4⟩ := hs
        exact ok_neg (by dsimp only; rw [r4 t (by omega), cT.1.2.1]; exact nI_nlt (Nat.le_refl _) (by omega)) (ok_some ⟨r1, r2, r3, r4⟩)
      · rw [bie, List.append_nil]
        exact w1
      · rw [mst_row _ _ _ (by omega)]
      · rw [mst_ne _ _ (Or.inl (by omega))]
      · dsimp only
        rw [nI_1, List.length_append, List.length_singleton]
    obtain ⟨q, hq, I', rfl, s1, s2, s3, s4⟩ := step
    refine ok_next hq ((ih (dn ++ [i]) I' (setT (setS X i (flS X i - un T A0 w i)) (flT X) (flB X ++ bie T w i (un T A0 w i) (tiO T))) (by rw [hl, List.append_assoc]; rfl) hn' (fun j hj => hr j (List.mem_cons_of_mem _ hj)) (cT.fr (fun r hr => s4 _ (by omega))) s1 (cP.fr (fun r hr => s4 _ (by omega))) ?_ (fun j hj' => ?_)).im (fun r hr => ?_))
    · show flT X + (flB X ++ bie T w i (un T A0 w i) (tiO T)).length + _ ≤ 864
      rw [List.length_append]
      omega
    · have : j ≠ i := fun q => hj (q ▸ hj')
      show pu (flS X) i _ j = flS A0 j ∧ pu (flS X) i _ j ≤ 99
      rw [pu_n this]
      exact hS j (List.mem_cons_of_mem _ hj')
    · obtain ⟨Y, y1, y2, y3, y4, y5, y6, y7, y8⟩ := hr
      refine ⟨Y, y1, y2, y3, fun j => ?_, ?_, y6.trans s2, y7.trans s3, s4.tr y8⟩
      · rw [y4]
        show (if j ∈ rest then pu (flS X) i (flS X i - un T A0 w i) j - un T A0 w j else pu (flS X) i (flS X i - un T A0 w i) j) = _
        by_cases e : j = i
        · rw [e, if_neg hj, pu_s, if_pos (List.mem_cons_self ..)]
        · rw [pu_n e]
          by_cases q : j ∈ rest
          · rw [if_pos q, if_pos (List.mem_cons_of_mem _ q)]
          · rw [if_neg q, if_neg (fun w => (List.mem_cons.mp w).elim e q)]
      · rw [y5, bil, ← List.append_assoc]
        rfl
theorem lg_c {ni f t p w : Nat} {I : MI} {T : Tx} {A : Fl} {l : List Nat} (hT : GT T) (hni : tiI T ≤ ni) (hd : t + 10 ≤ f ∨ f + 10 ≤ t) (hp : p + 9 ≤ f ∨ f + 10 ≤ p) (hw : Wok T A w) (c1 : CT I t T) (c2 : CF ni I f A) (g : GF T A) (hl : Pk T A w l) (cP : CPk I p T A w l) : Ok (f_X0_letGo f t p I) (fun I' => CF ni I' f (rlF T A w l) ∧ Fo f I I') := by
  have hI := hT.1
  have hO := hT.2.1
  have hlen := hl.len
  have hl10 : ∀ i, i ∈ l → i < tiI T := fun i hi => ((hl.2 i).mp hi).1
  obtain ⟨b1, b2⟩ := CF.sp.mp c2
  obtain ⟨s1, s2, s3, s4⟩ := rfs_s hT (w := w) (A0 := A) l (A1 T A w) (pw_nd hl.1) (fun i hi => by have := hl10 i hi; omega)
  have hroom := (gh_len hT (gf_rl hT g hw hl).1).1
  unfold f_X0_letGo
  refine ok_bind (lg1_c hT hd hp hw c1 b1 g.1 cP.1 cP.2.2.2.2.1) (fun r hr => ?_)
  obtain ⟨r1, r2, r3, r4⟩ := hr
  have hB : flB (rlF T A w l) = flB A ++ bil T A w l := s3
  have hTT : flT (rlF T A w l) = flT A := s1.2.2.2.2.1
  rw [hB, hTT, List.length_append] at hroom
  refine ok_bind (lg2_c (l := l) (A0 := A) (w := w) (p := p) hT hni hd hp (by omega) l [] r.2 _ rfl (pw_nd hl.1) hl10 (c1.fr (fun k hk => r4 _ (by omega))) r1 (cP.fr (fun k hk => r4 _ (by omega))) (by show flT A + (flB A).length + _ ≤ 864; omega) (fun i hi => ⟨rfl, g.1.1 i (hl10 i hi)⟩)) (fun q hq => ok_some ?_)
  obtain ⟨Y, y1, y2, y3, y4, y5, y6, y7, y8⟩ := hq
  refine ⟨CF.sp.mpr ⟨y1.eq ⟨fun i hi => ?_, fun o ho => ?_, fun o ho => ?_, fun h hh => ?_, fun c hc => ?_, fun c hc => ?_, ?_, ?_, ?_⟩, ?_⟩, r4.tr y8⟩
  · rw [y4]
    exact (s2 i).symm
  · rw [y2.1]
    exact congrFun s1.1.symm o
  · rw [y2.2.1]
    exact congrFun s1.2.1.symm o
  · rw [y2.2.2.1]
    exact congrFun s1.2.2.1.symm h
  · rw [y2.2.2.2.1]
    exact congrFun s1.2.2.2.1.symm c
  · rw [y3]
    show (if w.testBit (c / 10) = true then tiN T c - shc T A w c else flL A c) = flL (rfs T A w l (A1 T A w)) c
    rw [s4 c hc]
    show _ = if c % 10 ∈ l then (if w.testBit (c / 10) = true then tiN T c else flL A c) - shc T A w c else (if w.testBit (c / 10) = true then tiN T c else flL A c)
    have hsz : c % 10 ∉ l → shc T A w c = 0 := by
      intro hm
      by_cases hi : c % 10 < tiI T
      · have hu : un T A w (c % 10) = 0 := by
          refine Classical.byContradiction (fun q => hm ((hl.2 _).mpr ⟨hi, by omega⟩))
        unfold shc
        split
        · rw [hu]
          have := (gv_le (T := T) (w := w) (i := c % 10) (u := 0) (e := ixE T (c / 10))).1
          have := lf_le (T := T) (w := w) (i := c % 10) (u := 0) (ixE T (c / 10))
          omega
        · rfl
      · have h1 := shc_le (A := A) (w := w) (c := c) hT
        have h2 := (hT.2.2.2.2.2.2.2.1 c hc).2 (Or.inr (by omega))
        omega
    cases hb : w.testBit (c / 10)
    · have : shc T A w c = 0 := by
        unfold shc
        split
        · rename_i hlt
          exact gv_w (by rw [(ix_o hT hlt).2]; exact hb)
        · rfl
      rw [this]
      simp
    · by_cases hm : c % 10 ∈ l
      · rw [if_pos hm]
        rfl
      · rw [if_neg hm, hsz hm]
        rfl
  · rw [y2.2.2.2.2.1]
    exact s1.2.2.2.2.1.symm
  · rw [y5, hB]
    rfl
  · rw [y2.2.2.2.2.2.2]
    exact s1.2.2.2.2.2.2.symm
  · have hD : flD (rlF T A w l) = flD A := s1.2.2.2.2.2.1
    rw [hD]
    exact b2.fr (y6.trans r2) (y7.trans r3)
theorem wok_W {D : Dt} (hg : GD D) : Wok D.1 D.2.1 (wW D) := by
  refine ⟨wW_16 hg, fun o ho => ?_⟩
  have := wav_t ho
  unfold wts at this
  rw [bs_t, Bool.and_eq_true, decide_eq_true_eq, decide_eq_true_eq] at this
  exact this
theorem rl_m {m : Nat} {K : MI} {J : MJ} {D : Dt} {l : List Nat} (hg : GD D) (hl12 : D.2.2.2.2.1.length ≤ 12) (hm : MW m K D) (hl : Pk D.1 D.2.1 (wW D) l) (hw0 : wW D ≠ 0) : Ok (f_X5_release m J K) (fun r => r.1 = nI (pop (wW D)) ∧ MW m r.2 (dA (dU D) (rlF D.1 D.2.1 (wW D) l)) ∧ ∀ a, a < m ∨ m + 23 ≤ a → r.2 a = K a) := by
  have hI := hg.1.1
  have hO := hg.1.2.1
  have h16 := wW_16 hg
  have hwk := wok_W hg
  have hlen := hl.len
  have hl10 : ∀ i, i ∈ l → i < tiI D.1 := fun i hi => ((hl.2 i).mp hi).1
  have e0 : Ms m K (mst K m 0 0) := Ms.f (by omega)
  have hm0 := hm.ms e0
  unfold f_X5_release
  refine ok_wf (ok_bs (nw_a hg hm0) (ok_neg (nI_ne0 (by omega) (by omega)) (ok_bind (kp_a (J := J) hg hl12 hm0) (fun K1 hK1 => ?_))))
  obtain ⟨k1, k2⟩ := hK1
  refine ok_bind (lp_m (J := J) (w := wW D) k1.1 k1.2.1 (Nat.le_refl _) hg.1 hg.2.1.1 h16) (fun K2 hK2 => ?_)
  obtain ⟨l', q1, q2, q3⟩ := hK2
  obtain rfl := pw_uq l l' hl.1 q1.1 (fun i => by rw [hl.2, q1.2]; rfl)
  have k3 := k1.ms q3
  refine ok_bind (rl0_m (w := wW D) hg.1 hI hwk k3.1 k3.2.1 hg.2.1.1) (fun r hr => ?_)
  obtain ⟨r1, r2⟩ := hr
  have hL : ∀ i e, i ∈ l → e < tiO D.1 → (wW D).testBit (tiE D.1 e) = true → flL (A1 D.1 D.2.1 (wW D)) (10 * tiE D.1 e + i) = tiN D.1 (10 * tiE D.1 e + i) := by
    intro i e hi he hb
    have := hl10 i hi
    show (if (wW D).testBit ((10 * tiE D.1 e + i) / 10) = true then tiN D.1 (10 * tiE D.1 e + i) else flL D.2.1 (10 * tiE D.1 e + i)) = _
    rw [show (10 * tiE D.1 e + i) / 10 = tiE D.1 e by omega, if_pos hb]
  refine ok_bind (rl3_m (J := J) (A0 := D.2.1) (l := l) hg.1 hI (Nat.le_refl _) h16 (by omega) l [] r.2 (A1 D.1 D.2.1 (wW D)) rfl (pw_nd hl.1) hl10 (k3.1.fr (fun k hk => r2 _ (by omega))) r1 (gh_A1 hg.1 hg.2.1.1 hwk) (by rw [r2 _ (by omega)]; exact q2.1) (by rw [r2 _ (by omega)]; exact q2.2.1) (by rw [r2 _ (by omega)]; exact q2.2.2) (fun i hi => rfl) hL) (fun s hs => ok_bs (c1_s h16) (ok_some ?_))
  obtain ⟨s1, s2⟩ := hs
  refine ⟨rfl, k3.fl (fun a ha => (s2 a ha).trans (r2 a ha)) s1, fun a ha => ?_⟩
  rw [s2 a (by omega), r2 a (by omega), q3.1 a (by omega), k2 a (by omega) (by omega)]
  exact e0.1 a (by omega)
theorem case_10 {x L : Nat} {xs : Nat → Int32} : CaseOk (Inv x) L (fun t u i z J I => f_Lc_10 x t u (x + 46) L xs i z J I) := by
  rintro t u z J I k ⟨D, hg, hz, hc, hm⟩ hk
  have ht := hz.2.2.2.1
  obtain ⟨l, I1, K1, a1, a2, a3, a4, a5, a6, _⟩ := both_a J hg hz hc hm
  have fin : ∀ {z' : Sh} {I2 I3 : MI} {v : Int32}, f_X4_release x t u z I = some (v, z', I2) → zs z ≤ zs z' → oX5 z' (x + 46) → f_X5_release (x + 46) J I2 = some (v, I3) → f_Lc_10 x t u (x + 46) L xs (nI (6 * k)) z J I = some (z', J, I3) := by
    intro z' I2 I3 v e1 e2 e3 e4
    unfold f_Lc_10
    exact bnd_s e1 (bnd_s (gd_of e2) (bnd_s (gd_of e3) (bnd_s e4 (if_pos rfl))))
  have h16 := wW_16 hg
  have e0 : I1 (x + 34) 0 = nI (wW D) := a3.1
  by_cases hw0 : wW D = 0
  · refine ⟨z, J, mst I1 (x + 46) 0 0, t, u, fin (I2 := I1) (v := -1) ?_ (Nat.le_refl _) hz.2.1 ?_, Inv.pl hg hz hc hm a4 (Ms.f (by omega))⟩
    · unfold f_X4_release
      exact bnd_s a2 (it_p (by rw [e0, hw0]; rfl) rfl)
    · unfold f_X5_release
      exact bnd_s rfl (bnd_s (nw_a hg a6) (it_p (by rw [hw0]; rfl) rfl))
  · have hc1 : CW x t z I1 D := hc.fr hz.2.2.2.2.2 (fun a ha => a4 a (by omega))
    obtain ⟨⟨z', I2⟩, e1, b1, b2, b3, b4⟩ := rem_a hg hz hc1
    dsimp only at b1 b2 b3 b4
    obtain ⟨I3, e2, c1, c2⟩ := lg_c (p := x + 34) (w := wW D) hg.1 (Nat.le_refl _) (show t + 10 ≤ x + 24 ∨ x + 24 + 10 ≤ t by omega) (Or.inr (Nat.le_refl _)) (wok_W hg) b3.1 b3.2.1 hg.2.1 a1 (a3.fr (fun r hr => b4 _ (by omega) (by omega)))
    have hcI3 := b3.fl b1 c2 c1
    have hCd : Cd x I I3 := fun a ha => ((c2 a (by omega)).trans (b4 a (by omega) (by omega))).trans (a4 a (by omega))
    obtain ⟨⟨v, K⟩, e3, d1, d2, d3⟩ := rl_m (J := J) hg hc.2.2.2.2.2.1 (hm.cd hCd) a1 hw0
    dsimp only at d1 d2 d3
    rw [d1] at e3
    have hgf : GF D.1 (rlF D.1 D.2.1 (wW D) l) := gf_rl hg.1 hg.2.1 (wok_W hg) a1
    refine ⟨z', J, K, t, u, fin (I2 := I3) (v := nI (pop (wW D))) ?_ b2 b1.2.1 e3, dA (dU D) (rlF D.1 D.2.1 (wW D) l), hg.u.a hgf, b1, hcI3.md b1 (fun a ha => d3 a (by omega)), d2⟩
    unfold f_X4_release
    refine bnd_s a2 (it_n (by rw [e0]; exact nI_ne0 (by omega) (by omega)) (bnd_s e1 (bnd_s (gd_of b2) (bnd_s (gd_of b1.1) (bnd_s e2 ?_)))))
    rw [c2 (x + 34) (by omega), b4 (x + 34) (by omega) (by omega), e0]
    exact bnd_s (bc_s h16) rfl
