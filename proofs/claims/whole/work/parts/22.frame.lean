/-! what a change elsewhere leaves -/
theorem CF.fr {ni : Nat} {I I' : MI} {f : Nat} {A : Fl} (h : CF ni I f A) (e : ∀ r, r < 10 → I' (f + r) = I (f + r)) : CF ni I' f A := by
  have e0 := e 0 (by omega)
  rw [Nat.add_zero] at e0
  unfold CF at *
  rw [e0, e 1 (by omega), e 2 (by omega), e 3 (by omega), e 4 (by omega), e 5 (by omega), e 6 (by omega), e 7 (by omega), e 8 (by omega), e 9 (by omega)]
  exact h
theorem CT.fr {I I' : MI} {t : Nat} {T : Tx} (h : CT I t T) (e : ∀ r, r < 10 → I' (t + r) = I (t + r)) : CT I' t T := by
  have e0 := e 0 (by omega)
  rw [Nat.add_zero] at e0
  unfold CT at *
  rw [e0, e 2 (by omega), e 5 (by omega), e 6 (by omega), e 7 (by omega), e 8 (by omega), e 9 (by omega)]
  exact h
theorem CU.fr {x ni : Nat} {z : Sh} {I I' : MI} {Us : List Fl} {Ks : Nat → Option Fl} (h : CU x ni z I Us Ks) (hz : Slo x z) (e0 : I' x = I x) (e1 : I' (x + 45) = I (x + 45)) (e2 : ∀ a, x + 70 ≤ a → I' a = I a) : CU x ni z I' Us Ks := by
  obtain ⟨⟨p, hp, h8, hU⟩, h9, hl, hK⟩ := h
  refine ⟨⟨p, hp, by rw [e0]; exact h8, fun j B hj => ?_⟩, by rw [e0]; exact h9, hl, fun k hk => ⟨fun q => by rw [e1]; exact (hK k hk).1 q, fun B hB => ?_⟩⟩
  · obtain ⟨a, ha, hc⟩ := hU j B hj
    have := hz.1 _ a (by omega) ha
    exact ⟨a, ha, hc.fr (fun r _ => e2 _ (by omega))⟩
  · obtain ⟨hb, a, ha, hc⟩ := (hK k hk).2 B hB
    have := hz.1 _ a (by omega) ha
    exact ⟨by rw [e1]; exact hb, a, ha, hc.fr (fun r _ => e2 _ (by omega))⟩
theorem CW.fr {x t : Nat} {z : Sh} {I I' : MI} {D : Dt} (h : CW x t z I D) (hz : Slo x z) (e : ∀ a, a = x ∨ a = x + 1 ∨ (t ≤ a ∧ a < t + 10) ∨ (x + 24 ≤ a ∧ a < x + 34) ∨ a = x + 45 ∨ x + 70 ≤ a → I' a = I a) : CW x t z I' D := by
  obtain ⟨h1, h2, h3, h4⟩ := h
  refine ⟨h1.fr (fun r hr => e _ (by omega)), h2.fr (fun r hr => e _ (by omega)), ⟨by rw [e x (by omega)]; exact h3.1, by rw [e (x + 1) (by omega)]; exact h3.2⟩, h4.fr hz (e _ (by omega)) (e _ (by omega)) (fun a ha => e a (by omega))⟩
theorem MW.fr {m : Nat} {K K' : MI} {D : Dt} (h : MW m K D) (e0 : K' m 2 = K m 2 ∧ K' m 29 = K m 29) (e : ∀ r, 1 ≤ r ∧ r ≤ 6 ∨ r = 8 ∨ 11 ≤ r ∧ r ≤ 16 → K' (m + r) = K (m + r)) : MW m K' D := by
  unfold MW MT CP MU at *
  rw [e0.1, e0.2, e 1 (by omega), e 2 (by omega), e 3 (by omega), e 4 (by omega), e 5 (by omega), e 6 (by omega), e 8 (by omega), e 11 (by omega), e 12 (by omega), e 13 (by omega), e 14 (by omega), e 15 (by omega), e 16 (by omega)]
  exact h
/-- the reference's side changed nothing of the class's -/
def Md (x : Nat) (K K' : MI) : Prop := ∀ a, a < x + 46 ∨ x + 69 ≤ a → K' a = K a
/-- the class's side changed nothing of the reference's -/
def Cd (x : Nat) (I I' : MI) : Prop := ∀ a, x + 46 ≤ a ∧ a < x + 69 → I' a = I a
theorem CW.md {x t u : Nat} {z : Sh} {I I' : MI} {D : Dt} (h : CW x t z I D) (hz : GZ x t u z) (e : Md x I I') : CW x t z I' D := h.fr hz.2.2.2.2.2 (fun a ha => e a (by have := hz.2.2.2.1; omega))
theorem MW.cd {x : Nat} {I I' : MI} {D : Dt} (h : MW (x + 46) I D) (e : Cd x I I') : MW (x + 46) I' D := by
  have e0 := e (x + 46) (by omega)
  exact h.fr ⟨by rw [e0], by rw [e0]⟩ (fun r hr => e _ (by omega))
theorem Md.rf {x : Nat} {K : MI} : Md x K K := fun _ _ => rfl
theorem Md.tr {x : Nat} {K K' K'' : MI} (h : Md x K K') (h' : Md x K' K'') : Md x K K'' := fun a ha => (h' a ha).trans (h a ha)
theorem Cd.tr {x : Nat} {K K' K'' : MI} (h : Cd x K K') (h' : Cd x K' K'') : Cd x K K'' := fun a ha => (h' a ha).trans (h a ha)
/-- a call that only asks: the class leaves the memory, the reference writes its first field alone -/
theorem MW.thr {m : Nat} {K : MI} {D : Dt} {v : Int32} (h : MW m K D) : MW m (mst K m 0 v) D := h.fr ⟨mst_ne _ _ (by omega), mst_ne _ _ (by omega)⟩ (fun r hr => mst_row _ _ _ (by omega))
theorem Md.thr {x : Nat} {K : MI} {v : Int32} : Md x K (mst K (x + 46) 0 v) := fun a ha => mst_row _ _ _ (by omega)
theorem Inv.ask {x t u : Nat} {z : Sh} {J : MJ} {I : MI} {D : Dt} {v : Int32} (hg : GD D) (hz : GZ x t u z) (hc : CW x t z I D) (hm : MW (x + 46) I D) : Inv x t u z J (mst I (x + 46) 0 v) := ⟨D, hg, hz, hc.md hz Md.thr, hm.thr⟩
/-- the script's numbers of a call -/
theorem sc_rd {L k j : Nat} {xs : Nat → Int32} {d : Int32} (hd : d = nI j) (hj : j < 6) (hk : 6 * k + 6 ≤ L) (hL : L ≤ 3072) : rd L xs (nI (6 * k) + d) = some (xs (6 * k + j)) := rd_k _ (by rw [hd, nI_add]) (by omega) (by omega)
