/-! the start: the reference made, the class made -/
theorem in_5t {z z9 : Sh} {I K : MI} {J : MJ} {a : Nat} (hs : zs z9 = a + 23) (o5 : oX5 z9 a) (hx : Ext a z z9) (hl : Lo a I K) (hf : K a = fun _ => 0) (hg : K (a + 16) = fun _ => 0) : Ok ((gd (oX5 z9 a)).bind fun _ => (f_X5_plain a 0 J K).bind fun r112 => (f_X5_empties a J r112).bind fun r113 => some ((z9, J, r113))) (fun r => (zs r.1 = a + 23 ∧ oX5 r.1 a ∧ Ext a z r.1) ∧ Lo a I r.2.2 ∧ MT r.2.2 a (tB B0 (fun _ => 0)) ∧ MF 0 (r.2.2 (a + 13)) (fl1 (fun _ => 0)) ∧ r.2.2 a = (fun _ => 0) ∧ r.2.2 (a + 16) = fun _ => 0) := by
  refine ok_gd o5 (ok_bind (pl_m (m := a) (b := 0) (J := J) (K := K) (by omega)) (fun K1 h1 => ok_bind (em_m (m := a) (J := J) (K := K1)) (fun K2 h2 => ok_some ?_)))
  obtain ⟨⟨p2, p3, p4, p5, p6⟩, p12, q12, q26, q0⟩ := h1
  obtain ⟨em, ef⟩ := h2
  refine ⟨⟨hs, o5, hx⟩, fun b hb => ?_, ⟨⟨?_, ?_, ?_, ?_, ?_⟩, fun i hi => absurd hi (Nat.not_lt_zero _), fun o ho => absurd ho (Nat.not_lt_zero _), fun c hc => ?_⟩, em_f (by omega) (fun k h1 h2 => ⟨fun q => em.1 k h2 q, fun q => em.2 k q.1 q.2⟩) (fun i hi => absurd hi (Nat.not_lt_zero _)), ?_, ?_⟩
  · show K2 b = I b
    rw [ef b (by omega), q0 b (by omega)]
    exact hl b hb
  · show K2 (a + 2) 0 = _
    rw [ef _ (by omega)]; exact p2
  · show K2 (a + 3) 0 = _
    rw [ef _ (by omega)]; exact p3
  · show K2 (a + 4) 0 = _
    rw [ef _ (by omega)]; exact p4
  · show K2 (a + 5) 0 = _
    rw [ef _ (by omega)]; exact p5
  · show K2 (a + 6) 0 = _
    rw [ef _ (by omega)]; exact p6
  · show K2 (a + 12) c = _
    rw [ef _ (by omega)]
    have := p12 c hc
    rw [show 160 * 0 + c = c by omega] at this
    exact this
  · show K2 a = _
    rw [ef _ (by omega), q0 _ (by omega)]; exact hf
  · show K2 (a + 16) = _
    rw [ef _ (by omega), q0 _ (by omega)]; exact hg
set_option maxHeartbeats 4000000 in
theorem in_5 {z : Sh} {I : MI} {J : MJ} {a : Nat} (hz : Lay z a 5 1 []) (hI : I a = fun _ => 0) : Ok (f_X5_init a z J I) (fun r => (zs r.1 = a + 23 ∧ oX5 r.1 a ∧ Ext a z r.1) ∧ Lo a I r.2.2 ∧ MT r.2.2 a (tB B0 (fun _ => 0)) ∧ MF 0 (r.2.2 (a + 13)) (fl1 (fun _ => 0)) ∧ r.2.2 a = (fun _ => 0) ∧ r.2.2 (a + 16) = fun _ => 0) := by
  unfold f_X5_init
  have xz : Ext a z z := Ext.rf
  have sz : zs z = a + 1 := hz.1
  have lI : Lo a I I := Lo.rf
  refine ok_nq fun z2 ez2 => ?_
  refine ok_nq fun I1 eI1 => ?_
  rw [sz] at eI1
  have lI1 : Lo a I I1 := by rw [eI1]; exact lI.clr
  have fI1 : I1 a = fun _ => 0 := by rw [eI1, clr_ne _ _ (Nat.ne_of_lt (Nat.lt_add_of_pos_right (by decide)))]; exact hI
  refine ok_nq fun z4 ez4 => ?_
  rw [ez2] at ez4
  have hz4 : Lay z4 a 5 2 [(1, 1, 6, 600)] := by rw [ez4]; exact hz.add 1 6 600 (by decide)
  have xz4 : Ext a z z4 := by rw [ez4]; exact xz.al (by rw [sz]; exact Nat.le_add_right _ _) (Nat.le_refl _)
  have sz4 : zs z4 = a + 2 := hz4.1
  refine ok_nq fun z7 ez7 => ?_
  refine ok_nq fun I6 eI6 => ?_
  rw [sz4] at eI6
  have lI6 : Lo a I I6 := by rw [eI6]; exact lI1.clr
  have fI6 : I6 a = fun _ => 0 := by rw [eI6, clr_ne _ _ (Nat.ne_of_lt (Nat.lt_add_of_pos_right (by decide)))]; exact fI1
  refine ok_nq fun z9 ez9 => ?_
  rw [ez7] at ez9
  have hz9 : Lay z9 a 5 3 [(1, 1, 6, 600), (13, 2, 7, 2)] := by rw [ez9]; exact hz4.add 13 7 2 (by decide)
  have xz9 : Ext a z z9 := by rw [ez9]; exact xz4.al (by rw [sz4]; exact Nat.le_add_right _ _) (Nat.le_refl _)
  have sz9 : zs z9 = a + 3 := hz9.1
  refine ok_nq fun z12 ez12 => ?_
  refine ok_nq fun I11 eI11 => ?_
  rw [sz9] at eI11
  have lI11 : Lo a I I11 := by rw [eI11]; exact lI6.clr
  have fI11 : I11 a = fun _ => 0 := by rw [eI11, clr_ne _ _ (Nat.ne_of_lt (Nat.lt_add_of_pos_right (by decide)))]; exact fI6
  refine ok_nq fun z14 ez14 => ?_
  rw [ez12] at ez14
  have hz14 : Lay z14 a 5 4 [(1, 1, 6, 600), (13, 2, 7, 2), (14, 3, 7, 2)] := by rw [ez14]; exact hz9.add 14 7 2 (by decide)
  have xz14 : Ext a z z14 := by rw [ez14]; exact xz9.al (by rw [sz9]; exact Nat.le_add_right _ _) (Nat.le_refl _)
  have sz14 : zs z14 = a + 4 := hz14.1
  refine ok_nq fun z17 ez17 => ?_
  refine ok_nq fun I16 eI16 => ?_
  rw [sz14] at eI16
  have lI16 : Lo a I I16 := by rw [eI16]; exact lI11.clr
  have fI16 : I16 a = fun _ => 0 := by rw [eI16, clr_ne _ _ (Nat.ne_of_lt (Nat.lt_add_of_pos_right (by decide)))]; exact fI11
  refine ok_nq fun z19 ez19 => ?_
  rw [ez17] at ez19
  have hz19 : Lay z19 a 5 5 [(1, 1, 6, 600), (13, 2, 7, 2), (14, 3, 7, 2), (15, 4, 7, 2)] := by rw [ez19]; exact hz14.add 15 7 2 (by decide)
  have xz19 : Ext a z z19 := by rw [ez19]; exact xz14.al (by rw [sz14]; exact Nat.le_add_right _ _) (Nat.le_refl _)
  have sz19 : zs z19 = a + 5 := hz19.1
  refine ok_nq fun z22 ez22 => ?_
  refine ok_nq fun I21 eI21 => ?_
  rw [sz19] at eI21
  have lI21 : Lo a I I21 := by rw [eI21]; exact lI16.clr
  have fI21 : I21 a = fun _ => 0 := by rw [eI21, clr_ne _ _ (Nat.ne_of_lt (Nat.lt_add_of_pos_right (by decide)))]; exact fI16
  refine ok_nq fun z24 ez24 => ?_
  rw [ez22] at ez24
  have hz24 : Lay z24 a 5 6 [(1, 1, 6, 600), (13, 2, 7, 2), (14, 3, 7, 2), (15, 4, 7, 2), (16, 5, 7, 2)] := by rw [ez24]; exact hz19.add 16 7 2 (by decide)
  have xz24 : Ext a z z24 := by rw [ez24]; exact xz19.al (by rw [sz19]; exact Nat.le_add_right _ _) (Nat.le_refl _)
  have sz24 : zs z24 = a + 6 := hz24.1
  refine ok_nq fun z27 ez27 => ?_
  refine ok_nq fun I26 eI26 => ?_
  rw [sz24] at eI26
  have lI26 : Lo a I I26 := by rw [eI26]; exact lI21.clr
  have fI26 : I26 a = fun _ => 0 := by rw [eI26, clr_ne _ _ (Nat.ne_of_lt (Nat.lt_add_of_pos_right (by decide)))]; exact fI21
  refine ok_nq fun z29 ez29 => ?_
  rw [ez27] at ez29
  have hz29 : Lay z29 a 5 7 [(1, 1, 6, 600), (13, 2, 7, 2), (14, 3, 7, 2), (15, 4, 7, 2), (16, 5, 7, 2), (17, 6, 7, 2)] := by rw [ez29]; exact hz24.add 17 7 2 (by decide)
  have xz29 : Ext a z z29 := by rw [ez29]; exact xz24.al (by rw [sz24]; exact Nat.le_add_right _ _) (Nat.le_refl _)
  have sz29 : zs z29 = a + 7 := hz29.1
  refine ok_nq fun z32 ez32 => ?_
  refine ok_nq fun J31 eJ31 => ?_
  refine ok_nq fun z34 ez34 => ?_
  rw [ez32] at ez34
  have hz34 : Lay z34 a 5 8 [(1, 1, 6, 600), (13, 2, 7, 2), (14, 3, 7, 2), (15, 4, 7, 2), (16, 5, 7, 2), (17, 6, 7, 2), (18, 7, 8, 20)] := by rw [ez34]; exact hz29.add 18 8 20 (by decide)
  have xz34 : Ext a z z34 := by rw [ez34]; exact xz29.al (by rw [sz29]; exact Nat.le_add_right _ _) (Nat.le_refl _)
  have sz34 : zs z34 = a + 8 := hz34.1
  refine ok_nq fun z37 ez37 => ?_
  refine ok_nq fun I36 eI36 => ?_
  rw [sz34] at eI36
  have lI36 : Lo a I I36 := by rw [eI36]; exact lI26.clr
  have fI36 : I36 a = fun _ => 0 := by rw [eI36, clr_ne _ _ (Nat.ne_of_lt (Nat.lt_add_of_pos_right (by decide)))]; exact fI26
  refine ok_nq fun z39 ez39 => ?_
  rw [ez37] at ez39
  have hz39 : Lay z39 a 5 9 [(1, 1, 6, 600), (13, 2, 7, 2), (14, 3, 7, 2), (15, 4, 7, 2), (16, 5, 7, 2), (17, 6, 7, 2), (18, 7, 8, 20), (19, 8, 7, 20)] := by rw [ez39]; exact hz34.add 19 7 20 (by decide)
  have xz39 : Ext a z z39 := by rw [ez39]; exact xz34.al (by rw [sz34]; exact Nat.le_add_right _ _) (Nat.le_refl _)
  have sz39 : zs z39 = a + 9 := hz39.1
  refine ok_nq fun z42 ez42 => ?_
  refine ok_nq fun I41 eI41 => ?_
  rw [sz39] at eI41
  have lI41 : Lo a I I41 := by rw [eI41]; exact lI36.clr
  have fI41 : I41 a = fun _ => 0 := by rw [eI41, clr_ne _ _ (Nat.ne_of_lt (Nat.lt_add_of_pos_right (by decide)))]; exact fI36
  refine ok_nq fun z44 ez44 => ?_
  rw [ez42] at ez44
  have hz44 : Lay z44 a 5 10 [(1, 1, 6, 600), (13, 2, 7, 2), (14, 3, 7, 2), (15, 4, 7, 2), (16, 5, 7, 2), (17, 6, 7, 2), (18, 7, 8, 20), (19, 8, 7, 20), (20, 9, 7, 20)] := by rw [ez44]; exact hz39.add 20 7 20 (by decide)
  have xz44 : Ext a z z44 := by rw [ez44]; exact xz39.al (by rw [sz39]; exact Nat.le_add_right _ _) (Nat.le_refl _)
  have sz44 : zs z44 = a + 10 := hz44.1
  refine ok_nq fun z47 ez47 => ?_
  refine ok_nq fun J46 eJ46 => ?_
  refine ok_nq fun z49 ez49 => ?_
  rw [ez47] at ez49
  have hz49 : Lay z49 a 5 11 [(1, 1, 6, 600), (13, 2, 7, 2), (14, 3, 7, 2), (15, 4, 7, 2), (16, 5, 7, 2), (17, 6, 7, 2), (18, 7, 8, 20), (19, 8, 7, 20), (20, 9, 7, 20), (21, 10, 8, 32)] := by rw [ez49]; exact hz44.add 21 8 32 (by decide)
  have xz49 : Ext a z z49 := by rw [ez49]; exact xz44.al (by rw [sz44]; exact Nat.le_add_right _ _) (Nat.le_refl _)
  have sz49 : zs z49 = a + 11 := hz49.1
  refine ok_nq fun z52 ez52 => ?_
  refine ok_nq fun I51 eI51 => ?_
  rw [sz49] at eI51
  have lI51 : Lo a I I51 := by rw [eI51]; exact lI41.clr
  have fI51 : I51 a = fun _ => 0 := by rw [eI51, clr_ne _ _ (Nat.ne_of_lt (Nat.lt_add_of_pos_right (by decide)))]; exact fI41
  refine ok_nq fun z54 ez54 => ?_
  rw [ez52] at ez54
  have hz54 : Lay z54 a 5 12 [(1, 1, 6, 600), (13, 2, 7, 2), (14, 3, 7, 2), (15, 4, 7, 2), (16, 5, 7, 2), (17, 6, 7, 2), (18, 7, 8, 20), (19, 8, 7, 20), (20, 9, 7, 20), (21, 10, 8, 32), (22, 11, 7, 32)] := by rw [ez54]; exact hz49.add 22 7 32 (by decide)
  have xz54 : Ext a z z54 := by rw [ez54]; exact xz49.al (by rw [sz49]; exact Nat.le_add_right _ _) (Nat.le_refl _)
  have sz54 : zs z54 = a + 12 := hz54.1
  refine ok_nq fun z57 ez57 => ?_
  refine ok_nq fun I56 eI56 => ?_
  rw [sz54] at eI56
  have lI56 : Lo a I I56 := by rw [eI56]; exact lI51.clr
  have fI56 : I56 a = fun _ => 0 := by rw [eI56, clr_ne _ _ (Nat.ne_of_lt (Nat.lt_add_of_pos_right (by decide)))]; exact fI51
  refine ok_nq fun z59 ez59 => ?_
  rw [ez57] at ez59
  have hz59 : Lay z59 a 5 13 [(1, 1, 6, 600), (13, 2, 7, 2), (14, 3, 7, 2), (15, 4, 7, 2), (16, 5, 7, 2), (17, 6, 7, 2), (18, 7, 8, 20), (19, 8, 7, 20), (20, 9, 7, 20), (21, 10, 8, 32), (22, 11, 7, 32), (23, 12, 7, 320)] := by rw [ez59]; exact hz54.add 23 7 320 (by decide)
  have xz59 : Ext a z z59 := by rw [ez59]; exact xz54.al (by rw [sz54]; exact Nat.le_add_right _ _) (Nat.le_refl _)
  have sz59 : zs z59 = a + 13 := hz59.1
  refine ok_nq fun z62 ez62 => ?_
  refine ok_nq fun I61 eI61 => ?_
  rw [sz59] at eI61
  have lI61 : Lo a I I61 := by rw [eI61]; exact lI56.clr
  have fI61 : I61 a = fun _ => 0 := by rw [eI61, clr_ne _ _ (Nat.ne_of_lt (Nat.lt_add_of_pos_right (by decide)))]; exact fI56
  refine ok_nq fun z64 ez64 => ?_
  rw [ez62] at ez64
  have hz64 : Lay z64 a 5 14 [(1, 1, 6, 600), (13, 2, 7, 2), (14, 3, 7, 2), (15, 4, 7, 2), (16, 5, 7, 2), (17, 6, 7, 2), (18, 7, 8, 20), (19, 8, 7, 20), (20, 9, 7, 20), (21, 10, 8, 32), (22, 11, 7, 32), (23, 12, 7, 320), (27, 13, 7, 2117)] := by rw [ez64]; exact hz59.add 27 7 2117 (by decide)
  have xz64 : Ext a z z64 := by rw [ez64]; exact xz59.al (by rw [sz59]; exact Nat.le_add_right _ _) (Nat.le_refl _)
  have sz64 : zs z64 = a + 14 := hz64.1
  refine ok_nq fun z67 ez67 => ?_
  refine ok_nq fun I66 eI66 => ?_
  rw [sz64] at eI66
  have lI66 : Lo a I I66 := by rw [eI66]; exact lI61.clr
  have fI66 : I66 a = fun _ => 0 := by rw [eI66, clr_ne _ _ (Nat.ne_of_lt (Nat.lt_add_of_pos_right (by decide)))]; exact fI61
  refine ok_nq fun z69 ez69 => ?_
  rw [ez67] at ez69
  have hz69 : Lay z69 a 5 15 [(1, 1, 6, 600), (13, 2, 7, 2), (14, 3, 7, 2), (15, 4, 7, 2), (16, 5, 7, 2), (17, 6, 7, 2), (18, 7, 8, 20), (19, 8, 7, 20), (20, 9, 7, 20), (21, 10, 8, 32), (22, 11, 7, 32), (23, 12, 7, 320), (27, 13, 7, 2117), (28, 14, 7, 25404)] := by rw [ez69]; exact hz64.add 28 7 25404 (by decide)
  have xz69 : Ext a z z69 := by rw [ez69]; exact xz64.al (by rw [sz64]; exact Nat.le_add_right _ _) (Nat.le_refl _)
  have sz69 : zs z69 = a + 15 := hz69.1
  refine ok_nq fun z72 ez72 => ?_
  refine ok_nq fun I71 eI71 => ?_
  rw [sz69] at eI71
  have lI71 : Lo a I I71 := by rw [eI71]; exact lI66.clr
  have fI71 : I71 a = fun _ => 0 := by rw [eI71, clr_ne _ _ (Nat.ne_of_lt (Nat.lt_add_of_pos_right (by decide)))]; exact fI66
  refine ok_nq fun z74 ez74 => ?_
  rw [ez72] at ez74
  have hz74 : Lay z74 a 5 16 [(1, 1, 6, 600), (13, 2, 7, 2), (14, 3, 7, 2), (15, 4, 7, 2), (16, 5, 7, 2), (17, 6, 7, 2), (18, 7, 8, 20), (19, 8, 7, 20), (20, 9, 7, 20), (21, 10, 8, 32), (22, 11, 7, 32), (23, 12, 7, 320), (27, 13, 7, 2117), (28, 14, 7, 25404), (30, 15, 7, 4234)] := by rw [ez74]; exact hz69.add 30 7 4234 (by decide)
  have xz74 : Ext a z z74 := by rw [ez74]; exact xz69.al (by rw [sz69]; exact Nat.le_add_right _ _) (Nat.le_refl _)
  have sz74 : zs z74 = a + 16 := hz74.1
  refine ok_nq fun z77 ez77 => ?_
  refine ok_nq fun I76 eI76 => ?_
  rw [sz74] at eI76
  have lI76 : Lo a I I76 := by rw [eI76]; exact lI71.clr
  have fI76 : I76 a = fun _ => 0 := by rw [eI76, clr_ne _ _ (Nat.ne_of_lt (Nat.lt_add_of_pos_right (by decide)))]; exact fI71
  have gI76 : I76 (a + 16) = fun _ => 0 := by rw [eI76]; exact clr_self _ _ _
  refine ok_nq fun z79 ez79 => ?_
  rw [ez77] at ez79
  have hz79 : Lay z79 a 5 17 [(1, 1, 6, 600), (13, 2, 7, 2), (14, 3, 7, 2), (15, 4, 7, 2), (16, 5, 7, 2), (17, 6, 7, 2), (18, 7, 8, 20), (19, 8, 7, 20), (20, 9, 7, 20), (21, 10, 8, 32), (22, 11, 7, 32), (23, 12, 7, 320), (27, 13, 7, 2117), (28, 14, 7, 25404), (30, 15, 7, 4234), (31, 16, 9, 2)] := by rw [ez79]; exact hz74.add 31 9 2 (by decide)
  have xz79 : Ext a z z79 := by rw [ez79]; exact xz74.al (by rw [sz74]; exact Nat.le_add_right _ _) (Nat.le_refl _)
  have sz79 : zs z79 = a + 17 := hz79.1
  refine ok_nq fun z82 ez82 => ?_
  refine ok_nq fun I81 eI81 => ?_
  rw [sz79] at eI81
  have lI81 : Lo a I I81 := by rw [eI81]; exact lI76.clr
  have fI81 : I81 a = fun _ => 0 := by rw [eI81, clr_ne _ _ (Nat.ne_of_lt (Nat.lt_add_of_pos_right (by decide)))]; exact fI76
  have gI81 : I81 (a + 16) = fun _ => 0 := by rw [eI81, clr_ne _ _ (fun h => absurd (Nat.add_left_cancel h) (by decide))]; exact gI76
  refine ok_nq fun z84 ez84 => ?_
  rw [ez82] at ez84
  have hz84 : Lay z84 a 5 18 [(1, 1, 6, 600), (13, 2, 7, 2), (14, 3, 7, 2), (15, 4, 7, 2), (16, 5, 7, 2), (17, 6, 7, 2), (18, 7, 8, 20), (19, 8, 7, 20), (20, 9, 7, 20), (21, 10, 8, 32), (22, 11, 7, 32), (23, 12, 7, 320), (27, 13, 7, 2117), (28, 14, 7, 25404), (30, 15, 7, 4234), (31, 16, 9, 2), (32, 17, 7, 2117)] := by rw [ez84]; exact hz79.add 32 7 2117 (by decide)
  have xz84 : Ext a z z84 := by rw [ez84]; exact xz79.al (by rw [sz79]; exact Nat.le_add_right _ _) (Nat.le_refl _)
  have sz84 : zs z84 = a + 18 := hz84.1
  refine ok_nq fun z87 ez87 => ?_
  refine ok_nq fun I86 eI86 => ?_
  rw [sz84] at eI86
  have lI86 : Lo a I I86 := by rw [eI86]; exact lI81.clr
  have fI86 : I86 a = fun _ => 0 := by rw [eI86, clr_ne _ _ (Nat.ne_of_lt (Nat.lt_add_of_pos_right (by decide)))]; exact fI81
  have gI86 : I86 (a + 16) = fun _ => 0 := by rw [eI86, clr_ne _ _ (fun h => absurd (Nat.add_left_cancel h) (by decide))]; exact gI81
  refine ok_nq fun z89 ez89 => ?_
  rw [ez87] at ez89
  have hz89 : Lay z89 a 5 19 [(1, 1, 6, 600), (13, 2, 7, 2), (14, 3, 7, 2), (15, 4, 7, 2), (16, 5, 7, 2), (17, 6, 7, 2), (18, 7, 8, 20), (19, 8, 7, 20), (20, 9, 7, 20), (21, 10, 8, 32), (22, 11, 7, 32), (23, 12, 7, 320), (27, 13, 7, 2117), (28, 14, 7, 25404), (30, 15, 7, 4234), (31, 16, 9, 2), (32, 17, 7, 2117), (33, 18, 7, 10)] := by rw [ez89]; exact hz84.add 33 7 10 (by decide)
  have xz89 : Ext a z z89 := by rw [ez89]; exact xz84.al (by rw [sz84]; exact Nat.le_add_right _ _) (Nat.le_refl _)
  have sz89 : zs z89 = a + 19 := hz89.1
  refine ok_nq fun z92 ez92 => ?_
  refine ok_nq fun I91 eI91 => ?_
  rw [sz89] at eI91
  have lI91 : Lo a I I91 := by rw [eI91]; exact lI86.clr
  have fI91 : I91 a = fun _ => 0 := by rw [eI91, clr_ne _ _ (Nat.ne_of_lt (Nat.lt_add_of_pos_right (by decide)))]; exact fI86
  have gI91 : I91 (a + 16) = fun _ => 0 := by rw [eI91, clr_ne _ _ (fun h => absurd (Nat.add_left_cancel h) (by decide))]; exact gI86
  refine ok_nq fun z94 ez94 => ?_
  rw [ez92] at ez94
  have hz94 : Lay z94 a 5 20 [(1, 1, 6, 600), (13, 2, 7, 2), (14, 3, 7, 2), (15, 4, 7, 2), (16, 5, 7, 2), (17, 6, 7, 2), (18, 7, 8, 20), (19, 8, 7, 20), (20, 9, 7, 20), (21, 10, 8, 32), (22, 11, 7, 32), (23, 12, 7, 320), (27, 13, 7, 2117), (28, 14, 7, 25404), (30, 15, 7, 4234), (31, 16, 9, 2), (32, 17, 7, 2117), (33, 18, 7, 10), (34, 19, 7, 10)] := by rw [ez94]; exact hz89.add 34 7 10 (by decide)
  have xz94 : Ext a z z94 := by rw [ez94]; exact xz89.al (by rw [sz89]; exact Nat.le_add_right _ _) (Nat.le_refl _)
  have sz94 : zs z94 = a + 20 := hz94.1
  refine ok_nq fun z97 ez97 => ?_
  refine ok_nq fun I96 eI96 => ?_
  rw [sz94] at eI96
  have lI96 : Lo a I I96 := by rw [eI96]; exact lI91.clr
  have fI96 : I96 a = fun _ => 0 := by rw [eI96, clr_ne _ _ (Nat.ne_of_lt (Nat.lt_add_of_pos_right (by decide)))]; exact fI91
  have gI96 : I96 (a + 16) = fun _ => 0 := by rw [eI96, clr_ne _ _ (fun h => absurd (Nat.add_left_cancel h) (by decide))]; exact gI91
  refine ok_nq fun z99 ez99 => ?_
  rw [ez97] at ez99
  have hz99 : Lay z99 a 5 21 [(1, 1, 6, 600), (13, 2, 7, 2), (14, 3, 7, 2), (15, 4, 7, 2), (16, 5, 7, 2), (17, 6, 7, 2), (18, 7, 8, 20), (19, 8, 7, 20), (20, 9, 7, 20), (21, 10, 8, 32), (22, 11, 7, 32), (23, 12, 7, 320), (27, 13, 7, 2117), (28, 14, 7, 25404), (30, 15, 7, 4234), (31, 16, 9, 2), (32, 17, 7, 2117), (33, 18, 7, 10), (34, 19, 7, 10), (36, 20, 7, 16)] := by rw [ez99]; exact hz94.add 36 7 16 (by decide)
  have xz99 : Ext a z z99 := by rw [ez99]; exact xz94.al (by rw [sz94]; exact Nat.le_add_right _ _) (Nat.le_refl _)
  have sz99 : zs z99 = a + 21 := hz99.1
  refine ok_nq fun z102 ez102 => ?_
  refine ok_nq fun I101 eI101 => ?_
  rw [sz99] at eI101
  have lI101 : Lo a I I101 := by rw [eI101]; exact lI96.clr
  have fI101 : I101 a = fun _ => 0 := by rw [eI101, clr_ne _ _ (Nat.ne_of_lt (Nat.lt_add_of_pos_right (by decide)))]; exact fI96
  have gI101 : I101 (a + 16) = fun _ => 0 := by rw [eI101, clr_ne _ _ (fun h => absurd (Nat.add_left_cancel h) (by decide))]; exact gI96
  refine ok_nq fun z104 ez104 => ?_
  rw [ez102] at ez104
  have hz104 : Lay z104 a 5 22 [(1, 1, 6, 600), (13, 2, 7, 2), (14, 3, 7, 2), (15, 4, 7, 2), (16, 5, 7, 2), (17, 6, 7, 2), (18, 7, 8, 20), (19, 8, 7, 20), (20, 9, 7, 20), (21, 10, 8, 32), (22, 11, 7, 32), (23, 12, 7, 320), (27, 13, 7, 2117), (28, 14, 7, 25404), (30, 15, 7, 4234), (31, 16, 9, 2), (32, 17, 7, 2117), (33, 18, 7, 10), (34, 19, 7, 10), (36, 20, 7, 16), (37, 21, 7, 10)] := by rw [ez104]; exact hz99.add 37 7 10 (by decide)
  have xz104 : Ext a z z104 := by rw [ez104]; exact xz99.al (by rw [sz99]; exact Nat.le_add_right _ _) (Nat.le_refl _)
  have sz104 : zs z104 = a + 22 := hz104.1
  refine ok_nq fun z107 ez107 => ?_
  refine ok_nq fun I106 eI106 => ?_
  rw [sz104] at eI106
  have lI106 : Lo a I I106 := by rw [eI106]; exact lI101.clr
  have fI106 : I106 a = fun _ => 0 := by rw [eI106, clr_ne _ _ (Nat.ne_of_lt (Nat.lt_add_of_pos_right (by decide)))]; exact fI101
  have gI106 : I106 (a + 16) = fun _ => 0 := by rw [eI106, clr_ne _ _ (fun h => absurd (Nat.add_left_cancel h) (by decide))]; exact gI101
  refine ok_nq fun z109 ez109 => ?_
  rw [ez107] at ez109
  have hz109 : Lay z109 a 5 23 [(1, 1, 6, 600), (13, 2, 7, 2), (14, 3, 7, 2), (15, 4, 7, 2), (16, 5, 7, 2), (17, 6, 7, 2), (18, 7, 8, 20), (19, 8, 7, 20), (20, 9, 7, 20), (21, 10, 8, 32), (22, 11, 7, 32), (23, 12, 7, 320), (27, 13, 7, 2117), (28, 14, 7, 25404), (30, 15, 7, 4234), (31, 16, 9, 2), (32, 17, 7, 2117), (33, 18, 7, 10), (34, 19, 7, 10), (36, 20, 7, 16), (37, 21, 7, 10), (38, 22, 7, 10)] := by rw [ez109]; exact hz104.add 38 7 10 (by decide)
  have xz109 : Ext a z z109 := by rw [ez109]; exact xz104.al (by rw [sz104]; exact Nat.le_add_right _ _) (Nat.le_refl _)
  have sz109 : zs z109 = a + 23 := hz109.1
  exact in_5t sz109 hz109.2.2.1 xz109 lI106 fI106 gI106
