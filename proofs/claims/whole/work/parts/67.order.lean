/-! the class's line of an order -/
/-- row q in the making has kk items -/
def GNq (B : Bd) (q kk : Nat) : Prop := (∀ c, c < 160 → bN B c ≤ 9 ∧ (q < c / 10 ∨ bI B ≤ c % 10 → bN B c = 0)) ∧ (∀ o, o < q → 0 < sm (bN B) (10 * o) 10 ∧ sm (bN B) (10 * o) 10 ≤ 54) ∧ ct (fun i => decide (0 < bN B (10 * q + i))) 10 = kk ∧ sm (bN B) (10 * q) 10 ≤ 9 * kk ∧ (0 < kk → 0 < sm (bN B) (10 * q) 10) ∧ kk ≤ 6
theorem gnq_s {B : Bd} {q kk i v : Nat} (g : GNq B q kk) (hq : q < 16) (hi : i < 10) (hI : i < bI B) (h0 : bN B (10 * q + i) = 0) (hv : 1 ≤ v) (hv9 : v ≤ 9) (hk : kk < 6) : GNq (bsN B (10 * q + i) v) q (kk + 1) := by
  obtain ⟨g1, g2, g3, g4, g5, g6⟩ := g
  have hs := sm_pu (g := bN B) (a := 10 * q) (n := 10) (c := 10 * q + i) (v := v) (by omega) (by omega)
  refine ⟨fun c hc => ?_, fun p hp => ?_, ?_, ?_, fun _ => ?_, by omega⟩
  · show pu (bN B) (10 * q + i) v c ≤ 9 ∧ (q < c / 10 ∨ bI B ≤ c % 10 → pu (bN B) (10 * q + i) v c = 0)
    by_cases e : c = 10 * q + i
    · rw [e, pu_s]
      exact ⟨hv9, fun h => by omega⟩
    · rw [pu_n e]
      exact g1 c hc
  · show 0 < sm (pu (bN B) (10 * q + i) v) (10 * p) 10 ∧ sm (pu (bN B) (10 * q + i) v) (10 * p) 10 ≤ 54
    rw [sm_puo (by omega)]
    exact g2 p hp
  · have := ct_upd (p := fun j => decide (0 < bN B (10 * q + j))) (p' := fun j => decide (0 < pu (bN B) (10 * q + i) v (10 * q + j))) hi (fun j hj hne => by
      rw [pu_n (by omega)])
    rw [pu_s, h0, decide_eq_true (show 0 < v from hv)] at this
    show ct (fun j => decide (0 < pu (bN B) (10 * q + i) v (10 * q + j))) 10 = kk + 1
    simp at this
    omega
  · show sm (pu (bN B) (10 * q + i) v) (10 * q) 10 ≤ 9 * (kk + 1)
    omega
  · show 0 < sm (pu (bN B) (10 * q + i) v) (10 * q) 10
    omega
/-- what a line's units leave of the class, with k orders in it -/
def LU (o n u k q kk : Nat) (t : Tk) (I I' : MI) (R : Nat ⊕ (Tk × Bd)) : Prop := (∀ b, b ≠ o → b < u ∨ u + 10 ≤ b → I' b = I b) ∧ I' u 0 = I u 0 ∧ Sum.elim (fun F => I' o 6 = nI F ∧ 0 < F ∧ F < 2 ^ 20) (fun w => CK I' o n w.1 ∧ I' o 6 = 0 ∧ CBd I' u w.2 k ∧ GK n w.1 ∧ GB w.2 ∧ GNq w.2 q kk ∧ t.2.1 ≤ w.1.1 ∧ bO w.2 = q) R
/-- an item and its units, as the order's loop has them -/
noncomputable def rUn (o0 b0 : Nat) (o1 : Nat) (x2 : Int32) (I : MI) : Option MI :=
  (rd 16 (I (o1 + 8)) x2).bind fun v1 =>
  (f_X2_readItemOf o0 b0 o1 v1 I).bind fun r2 =>
  (f_X2_readNumber o0 b0 1 9 r2.2).bind fun r3 =>
  (if (r3.2 o0 6) = 0 then
    (f_X3_addUnits o1 x2 r2.1 r3.1 r3.2).bind fun r6 =>
    some r6
  else
    some r3.2).bind fun (p7 : MI) =>
  some p7
theorem rUn_in {o a u : Nat} {x : Int32} {I I' : MI} {β : Type} {g : MI → Option β} {r : Option β} (h : rUn o a u x I = some I') (hg : g I' = r) : ((rd 16 (I (u + 8)) x).bind fun v1 =>
    (f_X2_readItemOf o a u v1 I).bind fun r2 =>
    (f_X2_readNumber o a 1 9 r2.2).bind fun r3 =>
    (if (r3.2 o 6) = 0 then
      (f_X3_addUnits u x r2.1 r3.1 r3.2).bind fun r6 =>
      some r6
    else
      some r3.2).bind fun (p7 : MI) => g p7) = r := by
  unfold rUn at h
  obtain ⟨v, hv, h⟩ := bnd h
  obtain ⟨r2, h2, h⟩ := bnd h
  obtain ⟨r3, h3, h⟩ := bnd h
  obtain ⟨p, hp, h⟩ := bnd h
  obtain rfl := Option.some.inj h
  rw [hv, Option.bind_some, h2, Option.bind_some, h3, Option.bind_some, hp, Option.bind_some]
  exact hg
section OrC
variable {o a n u : Nat} {bt : Nat → Nat}
theorem un_l (hoa : o ≠ a) (hou : o < u ∨ u + 10 ≤ o) (hau : a < u ∨ u + 10 ≤ a) {I : MI} {t : Tk} {B : Bd} {q kk : Nat} (hT : Tape I a n bt) (hk : CK I o n t) (hg : GK n t) (h6 : I o 6 = 0) (hB : CBd I u B (q + 1)) (gB : GB B) (gN : GNq B q kk) (hq : bO B = q) (hq16 : q < 16) : Ok (rUn o a u (nI q) I) (fun I' => LU o n u (q + 1) q (kk + 1) t I I' (pUn bt n t B q kk)) := by
  have h600 := hT.1
  have hI10 := gB.1
  have his := is_c (a := a) hk hg
  obtain ⟨g1, g2, g3, g4, g5, g6, g7⟩ := id hg
  obtain ⟨k1, k2, k3, k4, k5⟩ := id hk
  have hin := in_c hB gB g4
  rw [← k5] at hin
  have h8 := (hB.2.2.2.2.1 q hq16).2
  -- once a fault stands
  have nop : ∀ {I1 : MI} {F : Nat} {x1 : Int32}, (∀ b, b ≠ o → I1 b = I b) → I1 o 6 = nI F → 0 < F → F < 2 ^ 20 → Ok ((f_X2_readNumber o a 1 9 I1).bind fun r3 => (if (r3.2 o 6) = 0 then (f_X3_addUnits u (nI q) x1 r3.1 r3.2).bind fun r6 => some r6 else some r3.2).bind fun (p7 : MI) => some p7) (fun I' => LU o n u (q + 1) q (kk + 1) t I I' (.inl F)) := by
    intro I1 F x1 hf hF h1 h2
    have h6' : ¬ I1 o 6 = 0 := by rw [hF]; exact nI_ne0 h1 (by omega)
    obtain ⟨v, hv⟩ := rn_n (a := a) (x := 1) (y := 9) h6'
    exact ok_bs hv (ok_bs (it_n h6' rfl) (ok_some ⟨fun b h1 _ => hf b h1, by dsimp only; rw [hf u (by omega)], hF, h1, h2⟩))
  have fm : ∀ {k : Nat}, ∀ b, b ≠ o → mst I o 6 (nI (8 * t.1 + k)) b = I b := fun b hb => mst_row _ _ _ hb
  unfold rUn pUn
  refine ok_bs (rd_v q rfl hq16 (by omega) h8) ?_
  unfold f_X2_readItemOf
  by_cases c1 : isN t = true
  · rw [if_pos c1]
    rw [if_pos c1] at his
    by_cases c2 : fnd (bNm B) t.2.2.2 (bI B) < bI B
    · rw [if_pos c2]
      rw [if_pos c2] at hin
      generalize hii : fnd (bNm B) t.2.2.2 (bI B) = i at c2 hin ⊢
      have hbit : f_X4_hasBit (nI (bs (fun i => decide (0 < bN B (10 * q + i))) 10)) (nI i) = some (if bN B (10 * q + i) = 0 then 0 else 1) := by
        rw [hb_s it_16 (by omega), bs_t, decide_eq_true (show i < 10 by omega), Bool.true_and]
        by_cases z : bN B (10 * q + i) = 0
        · rw [if_pos z, if_neg (by simp [z])]
        · rw [if_neg z, if_pos (by simp; omega)]
      by_cases c3 : bN B (10 * q + i) = 0
      · rw [if_pos c3]
        rw [if_pos c3] at hbit
        have hbc : f_J6_bitCount_0f7a4 (nI (bs (fun i => decide (0 < bN B (10 * q + i))) 10)) = some (nI kk) := by rw [bc_s it_16, pop_bs (by omega), gN.2.2.1]
        have hk6 := gN.2.2.2.2.2
        by_cases c4 : kk < 6
        · rw [if_pos c4]
          refine ok_bind (P := fun r : Int32 × MI => r.1 = nI i ∧ CK r.2 o n (tok bt n t.2.1) ∧ r.2 o 6 = 0 ∧ ∀ b, b ≠ o → r.2 b = I b) (ok_bs his (ok_neg (by decide) (ok_bs hin (ok_bs (a := I) (it_n (ne_m1 (by omega) rfl) (bnd_s hbit (it_p rfl (bnd_s hbc (it_p (nI_lt (b := 6) c4 (by omega)) rfl))))) (ok_bind (ad_c hoa hT g2 k1 k2 h6) (fun I' hI' => ok_some ⟨rfl, hI'⟩)))))) (fun r hr => ?_)
          obtain ⟨r0, r1, r2, r3⟩ := hr
          have gt := gk_tok (bt := bt) g2
          refine ok_bind (rn_c (lo := 1) (hi := 9) hoa (hT.fr (r3 a (fun q => hoa q.symm))) r1 gt.1 r2 (by omega) (by omega)) (fun s hs => ?_)
          obtain ⟨fs, hs⟩ := hs
          have es : ∀ b, b ≠ o → s.2 b = I b := fun b hb => (fs b hb).trans (r3 b hb)
          cases hp : pN bt n 1 9 (tok bt n t.2.1) with
          | inl F =>
            rw [hp] at hs
            have h6' : ¬ s.2 o 6 = 0 := by rw [hs.1]; exact nI_ne0 hs.2.1 (by have := hs.2.2; omega)
            exact ok_bs (it_n h6' rfl) (ok_some ⟨fun b h1 _ => es b h1, by rw [es u (by omega)], hs⟩)
          | inr w =>
            rw [hp] at hs
            obtain ⟨w1, w2, w3, w4, w5, w6, w7⟩ := hs
            rw [r0, w1]
            have hc160 : 10 * q + i < 160 := by omega
            have e6 : s.2 u 6 = nI (bI B) := by rw [es u (by omega)]; exact hB.1.2.2.2.2.2.1
            have e10 : s.2 u 10 = nI (q + 1) := by rw [es u (by omega)]; exact hB.1.2.2.2.2.2.2
            have h7 := (hB.2.2.2.2.1 q hq16).1
            have hadd : f_X3_addUnits u (nI q) (nI i) (nI w.1) s.2 = some (mst (mst (mst s.2 (u + 6) (10 * q + i) (nI w.1)) (u + 7) q (nI (sm (bN B) (10 * q) 10 + w.1))) (u + 8) q (nI (bs (fun j => decide (0 < pu (bN B) (10 * q + i) w.1 (10 * q + j))) 10))) := by
              unfold f_X3_addUnits
              refine bnd_s (co_yes e10 (by omega) (show q < q + 1 by omega)) ?_
              refine bnd_s (a := mst (mst (mst s.2 (u + 6) (10 * q + i) (nI w.1)) (u + 7) q (nI (sm (bN B) (10 * q) 10 + w.1))) (u + 8) q (nI (bs (fun j => decide (0 < pu (bN B) (10 * q + i) w.1 (10 * q + j))) 10))) (it_n (by decide) ?_) rfl
              refine bnd_s (ci_yes e6 (by omega) c2) (it_n (by decide) ?_)
              refine bnd_s (show f_X4_cell (nI q) (nI i) = some (nI (10 * q + i)) from congrArg some (ci_c _ _)) ?_
              refine bnd_s (wr_k (10 * q + i) rfl hc160 (by omega)) ?_
              refine bnd_s (rd_v (v := nI (sm (bN B) (10 * q) 10)) q rfl hq16 (by omega) (by rw [mst_row _ _ _ (by omega), es _ (by omega)]; exact h7)) ?_
              refine bnd_s (wr_k q rfl hq16 (by omega)) ?_
              refine bnd_s (rd_v (v := nI (bs (fun j => decide (0 < bN B (10 * q + j))) 10)) q rfl hq16 (by omega) (by rw [mst_row _ _ _ (by omega), mst_row _ _ _ (by omega), es _ (by omega)]; exact h8)) ?_
              refine bnd_s (wr_k q rfl hq16 (by omega)) ?_
              rw [nI_add, b_one (by omega), b_lor]
              have hor := bs_or1 (p := fun j => decide (0 < bN B (10 * q + j))) (n := 10) (j := i) (c := true) (by omega)
              rw [if_pos rfl] at hor
              rw [hor]
              congr 2
              refine congrArg nI (bs_cg (fun j hj => ?_))
              by_cases e : j = i
              · rw [e, pu_s]; simp; omega
              · rw [pu_n (by omega)]; simp [e]
            refine ok_bs (it_p w3 (bnd_s hadd rfl)) (ok_some ?_)
            generalize hM : mst (mst (mst s.2 (u + 6) (10 * q + i) (nI w.1)) (u + 7) q (nI (sm (bN B) (10 * q) 10 + w.1))) (u + 8) q (nI (bs (fun j => decide (0 < pu (bN B) (10 * q + i) w.1 (10 * q + j))) 10)) = M
            have mo : ∀ b, b ≠ u + 6 → b ≠ u + 7 → b ≠ u + 8 → M b = s.2 b := fun b h6 h7 h8 => by rw [← hM, mst_row _ _ _ h8, mst_row _ _ _ h7, mst_row _ _ _ h6]
            have m6 : M (u + 6) = pu (I (u + 6)) (10 * q + i) (nI w.1) := by rw [← hM, mst_row _ _ _ (by omega), mst_row _ _ _ (by omega), ms_r, es _ (by omega)]
            have m7 : M (u + 7) = pu (I (u + 7)) q (nI (sm (bN B) (10 * q) 10 + w.1)) := by rw [← hM, mst_row _ _ _ (by omega), ms_r, mst_row _ _ _ (by omega), es _ (by omega)]
            have m8 : M (u + 8) = pu (I (u + 8)) q (nI (bs (fun j => decide (0 < pu (bN B) (10 * q + i) w.1 (10 * q + j))) 10)) := by rw [← hM, ms_r, mst_row _ _ _ (by omega), mst_row _ _ _ (by omega), es _ (by omega)]
            have mr : ∀ r, r < 10 → r ≠ 6 → r ≠ 7 → r ≠ 8 → M (u + r) = I (u + r) := fun r h0 h1 h2 h3 => by rw [mo _ (by omega) (by omega) (by omega), es _ (by omega)]
            have mu : M u = I u := by have := mr 0 (by omega) (by omega) (by omega) (by omega); rw [Nat.add_zero] at this; exact this
            refine ⟨fun b h1 h2 => by rw [mo b (by omega) (by omega) (by omega)]; exact es b h1, by rw [mu], w2.fr (mo o (by omega) (by omega) (by omega)), by rw [mo o (by omega) (by omega) (by omega)]; exact w3, ?_, w4, gB, gnq_s gN hq16 (by omega) c2 c3 w5 w6 c4, by have := gt.2; have := gt.1.1; show t.2.1 ≤ w.2.1; omega, hq⟩
            obtain ⟨d0, d1, d2, d3, d4, E, d5, d6⟩ := hB
            refine ⟨by rw [mu]; exact d0, fun j hj => by rw [mr 1 (by omega) (by omega) (by omega) (by omega), mr 2 (by omega) (by omega) (by omega) (by omega), mr 3 (by omega) (by omega) (by omega) (by omega)]; exact d1 j hj, fun p hp => by rw [mr 4 (by omega) (by omega) (by omega) (by omega), mr 5 (by omega) (by omega) (by omega) (by omega)]; exact d2 p hp, fun c hc => ?_, fun p hp => ?_, E, d5, fun e he => by rw [mr 9 (by omega) (by omega) (by omega) (by omega)]; exact d6 e he⟩
            · rw [m6]
              show pu (I (u + 6)) (10 * q + i) (nI w.1) c = nI (pu (bN B) (10 * q + i) w.1 c)
              by_cases e : c = 10 * q + i
              · rw [e, pu_s, pu_s]
              · rw [pu_n e, pu_n e]; exact d3 c hc
            · rw [m7, m8]
              show pu (I (u + 7)) q (nI (sm (bN B) (10 * q) 10 + w.1)) p = nI (sm (pu (bN B) (10 * q + i) w.1) (10 * p) 10) ∧ pu (I (u + 8)) q (nI (bs (fun j => decide (0 < pu (bN B) (10 * q + i) w.1 (10 * q + j))) 10)) p = nI (bs (fun j => decide (0 < pu (bN B) (10 * q + i) w.1 (10 * p + j))) 10)
              by_cases e : p = q
              · have hs := sm_pu (g := bN B) (a := 10 * q) (n := 10) (c := 10 * q + i) (v := w.1) (by omega) (by omega)
                rw [e, pu_s, pu_s]
                refine ⟨?_, rfl⟩
                congr 1
                omega
              · rw [pu_n e, pu_n e, sm_puo (by omega)]
                refine ⟨(d4 p hp).1, (d4 p hp).2.trans (congrArg nI (bs_cg (fun j hj => ?_)))⟩
                rw [pu_n (by omega)]
        · rw [if_neg c4]
          exact ok_bs (bnd_s his (it_n (by decide) (bnd_s hin (bnd_s (it_n (ne_m1 (by omega) rfl) (bnd_s hbit (it_p rfl (bnd_s hbc (it_n (nI_nlt (b := 6) (by omega) (by omega)) (bnd_s (fa_c (k := 5) hk h6) rfl)))))) (bnd_s (ad_n (fl_6 (by omega) (by omega))) rfl))))) (nop fm (mst_self _ _ _ _) (by omega) (by omega))
      · rw [if_neg c3]
        rw [if_neg c3] at hbit
        exact ok_bs (bnd_s his (it_n (by decide) (bnd_s hin (bnd_s (it_n (ne_m1 (by omega) rfl) (bnd_s hbit (it_n (by decide) (bnd_s (fa_c (k := 2) hk h6) rfl)))) (bnd_s (ad_n (fl_6 (by omega) (by omega))) rfl))))) (nop fm (mst_self _ _ _ _) (by omega) (by omega))
    · rw [if_neg c2]
      rw [if_neg c2] at hin
      exact ok_bs (bnd_s his (it_n (by decide) (bnd_s hin (bnd_s (it_p rfl (bnd_s (fa_c (k := 3) hk h6) rfl)) (bnd_s (ad_n (fl_6 (by omega) (by omega))) rfl))))) (nop fm (mst_self _ _ _ _) (by omega) (by omega))
  · rw [if_neg c1]
    rw [if_neg c1] at his
    exact ok_bs (bnd_s his (it_p rfl (bnd_s (fa_c (k := 1) hk h6) rfl))) (nop fm (mst_self _ _ _ _) (by omega) (by omega))
end OrC
