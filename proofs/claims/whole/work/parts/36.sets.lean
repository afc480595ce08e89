/-! one place of a floor new -/
def setS (A : Fl) (k v : Nat) : Fl := ((pu (flS A) k v, flW A, flH A, flO A, flA A, flL A), flT A, flB A, flD A, flC A)
def setW (A : Fl) (k v : Nat) : Fl := ((flS A, pu (flW A) k v, flH A, flO A, flA A, flL A), flT A, flB A, flD A, flC A)
def setH (A : Fl) (k v : Nat) : Fl := ((flS A, flW A, pu (flH A) k v, flO A, flA A, flL A), flT A, flB A, flD A, flC A)
def setO (A : Fl) (k v : Nat) : Fl := ((flS A, flW A, flH A, pu (flO A) k v, flA A, flL A), flT A, flB A, flD A, flC A)
def setA (A : Fl) (k v : Nat) : Fl := ((flS A, flW A, flH A, flO A, pu (flA A) k v, flL A), flT A, flB A, flD A, flC A)
def setL (A : Fl) (k v : Nat) : Fl := ((flS A, flW A, flH A, flO A, flA A, pu (flL A) k v), flT A, flB A, flD A, flC A)
def setT (A : Fl) (n : Nat) (b : List Nat) : Fl := ((flS A, flW A, flH A, flO A, flA A, flL A), n, b, flD A, flC A)
def setD (A : Fl) (d : List Nat) : Fl := ((flS A, flW A, flH A, flO A, flA A, flL A), flT A, flB A, d, flC A)
def setC (A : Fl) (c : List Nat) : Fl := ((flS A, flW A, flH A, flO A, flA A, flL A), flT A, flB A, flD A, c)
/-- the floor but for the units aside -/
def CG (ni : Nat) (I : MI) (f : Nat) (A : Fl) : Prop :=
  (∀ i, i < ni → I (f + 1) i = nI (flS A i)) ∧ (∀ o, o < 16 → I (f + 2) o = nI (flW A o)) ∧ (∀ o, o < 16 → I (f + 3) o = nI (flH A o) - 1) ∧ (∀ h, h < 8 → I (f + 4) h = nI (flO A h) - 1) ∧ (∀ c, c < 160 → I (f + 5) c = nI (flA A c)) ∧ (∀ c, c < 160 → I (f + 6) c = nI (flL A c)) ∧ (I f 9 = nI (flT A) ∧ I f 10 = nI (flT A + (flB A).length) ∧ lsr (I (f + 8)) (flT A) (flB A)) ∧ (I f 7 = nI (flC A).length ∧ lsr (I (f + 7)) 0 (flC A))
def CS (I : MI) (f : Nat) (l : List Nat) : Prop := I f 12 = nI l.length ∧ lsr (I (f + 9)) 0 l
theorem CF.sp {ni : Nat} {I : MI} {f : Nat} {A : Fl} : CF ni I f A ↔ CG ni I f A ∧ CS I f (flD A) := by
  unfold CF CG CS
  constructor
  · rintro ⟨h1, h2, h3, h4, h5, h6, h7, h8, h9⟩
    exact ⟨⟨h1, h2, h3, h4, h5, h6, h7, h9⟩, h8⟩
  · rintro ⟨⟨h1, h2, h3, h4, h5, h6, h7, h9⟩, h8⟩
    exact ⟨h1, h2, h3, h4, h5, h6, h7, h8, h9⟩
def MG (ni : Nat) (S : Nat → Int32) (A : Fl) : Prop :=
  (∀ i, i < ni → S i = nI (flS A i)) ∧ (∀ o, o < 16 → S (330 + o) = nI (flW A o)) ∧ (∀ o, o < 16 → S (346 + o) = nI (flH A o) - 1) ∧ (∀ h, h < 8 → S (362 + h) = nI (flO A h) - 1) ∧ (∀ c, c < 160 → S (10 + c) = nI (flA A c)) ∧ (∀ c, c < 160 → S (170 + c) = nI (flL A c)) ∧ (S 370 = nI (flB A).length ∧ lsr S 371 (flB A)) ∧ (S 2100 = nI (flC A).length ∧ lsr S 2101 (flC A))
def MS (S : Nat → Int32) (l : List Nat) : Prop := S 1235 = nI l.length ∧ lsr S 1236 l
theorem MF.sp {ni : Nat} {S : Nat → Int32} {A : Fl} : MF ni S A ↔ MG ni S A ∧ MS S (flD A) := by
  unfold MF MG MS
  constructor
  · rintro ⟨h1, h2, h3, h4, h5, h6, h7, h8, h9⟩
    exact ⟨⟨h1, h2, h3, h4, h5, h6, h7, h9⟩, h8⟩
  · rintro ⟨⟨h1, h2, h3, h4, h5, h6, h7, h9⟩, h8⟩
    exact ⟨h1, h2, h3, h4, h5, h6, h7, h8, h9⟩
theorem CG.fr {ni : Nat} {I I' : MI} {f : Nat} {A : Fl} (h : CG ni I f A) (e : ∀ r, 1 ≤ r → r ≤ 8 → I' (f + r) = I (f + r)) (e0 : I' f 9 = I f 9 ∧ I' f 10 = I f 10 ∧ I' f 7 = I f 7) : CG ni I' f A := by
  unfold CG at *
  rw [e0.1, e0.2.1, e0.2.2, e 1 (by omega) (by omega), e 2 (by omega) (by omega), e 3 (by omega) (by omega), e 4 (by omega) (by omega), e 5 (by omega) (by omega), e 6 (by omega) (by omega), e 7 (by omega) (by omega), e 8 (by omega) (by omega)]
  exact h
theorem CS.fr {I I' : MI} {f : Nat} {l : List Nat} (h : CS I f l) (e : I' (f + 9) = I (f + 9)) (e0 : I' f 12 = I f 12) : CS I' f l := by
  unfold CS at *
  rw [e, e0]
  exact h
/-- what a change within a floor at f leaves -/
def Fo (f : Nat) (I I' : MI) : Prop := (∀ a, a < f ∨ f + 10 ≤ a → I' a = I a)
theorem Fo.rf {f : Nat} {I : MI} : Fo f I I := fun _ _ => rfl
theorem Fo.tr {f : Nat} {I I' I'' : MI} (h : Fo f I I') (h' : Fo f I' I'') : Fo f I I'' := fun a ha => (h' a ha).trans (h a ha)
theorem Fo.ms {f r k : Nat} {I : MI} {v : Int32} (hr : r < 10) : Fo f I (mst I (f + r) k v) := fun a ha => mst_row _ _ _ (by omega)
theorem Fo.m0 {f k : Nat} {I : MI} {v : Int32} : Fo f I (mst I f k v) := fun a ha => mst_row _ _ _ (by omega)
theorem CG.sS {ni : Nat} {I : MI} {f k v : Nat} {A : Fl} (h : CG ni I f A) : CG ni (mst I (f + 1) k (nI v)) f (setS A k v) := by
  obtain ⟨h1, h2, h3, h4, h5, h6, ⟨h7, h8, h9⟩, h10, h11⟩ := h
  refine ⟨fun i hi => ?_, fun i hi => ?_, fun i hi => ?_, fun i hi => ?_, fun i hi => ?_, fun i hi => ?_, ⟨?_, ?_, ?_⟩, ?_, ?_⟩
  · rw [ms_r]
    show pu (I (f + 1)) k (nI v) i = nI (pu (flS A) k v i)
    by_cases e : i = k
    · rw [e, pu_s, pu_s]
    · rw [pu_n e, pu_n e]
      exact h1 i hi
  · rw [mst_row _ _ _ (by omega)]; exact h2 i hi
  · rw [mst_row _ _ _ (by omega)]; exact h3 i hi
  · rw [mst_row _ _ _ (by omega)]; exact h4 i hi
  · rw [mst_row _ _ _ (by omega)]; exact h5 i hi
  · rw [mst_row _ _ _ (by omega)]; exact h6 i hi
  · rw [mst_row _ _ _ (by omega)]; exact h7
  · rw [mst_row _ _ _ (by omega)]; exact h8
  · rw [mst_row _ _ _ (by omega)]; exact h9
  · rw [mst_row _ _ _ (by omega)]; exact h10
  · rw [mst_row _ _ _ (by omega)]; exact h11
theorem MG.sS {ni : Nat} {S : Nat → Int32} {k v : Nat} {A : Fl} (h : MG ni S A) (hk : k < ni) (hi0 : ni ≤ 10) (hB : (flB A).length ≤ 864) (hC : (flC A).length ≤ 16) : MG ni (pu S (0 + k) (nI v)) (setS A k v) := by
  obtain ⟨h1, h2, h3, h4, h5, h6, ⟨h7, h8⟩, h10, h11⟩ := h
  refine ⟨fun i hi => ?_, fun i hi => ?_, fun i hi => ?_, fun i hi => ?_, fun i hi => ?_, fun i hi => ?_, ⟨?_, fun j c hj => ?_⟩, ?_, fun j c hj => ?_⟩
  · show pu S (0 + k) (nI v) (i) = nI (pu (flS A) k v i)
    by_cases e : i = k
    · rw [e, pu_s, Nat.zero_add, pu_s]
    · rw [pu_n (by omega), pu_n e]
      exact h1 i hi
  · rw [pu_n (by omega)]; exact h2 i hi
  · rw [pu_n (by omega)]; exact h3 i hi
  · rw [pu_n (by omega)]; exact h4 i hi
  · rw [pu_n (by omega)]; exact h5 i hi
  · rw [pu_n (by omega)]; exact h6 i hi
  · rw [pu_n (by omega)]; exact h7
  · have hj' : j < (flB A).length := ls_lt hj
    rw [pu_n (by omega)]; exact h8 j c hj
  · rw [pu_n (by omega)]; exact h10
  · have hj' : j < (flC A).length := ls_lt hj
    rw [pu_n (by omega)]; exact h11 j c hj
theorem CG.sW {ni : Nat} {I : MI} {f k v : Nat} {A : Fl} (h : CG ni I f A) : CG ni (mst I (f + 2) k (nI v)) f (setW A k v) := by
  obtain ⟨h1, h2, h3, h4, h5, h6, ⟨h7, h8, h9⟩, h10, h11⟩ := h
  refine ⟨fun i hi => ?_, fun i hi => ?_, fun i hi => ?_, fun i hi => ?_, fun i hi => ?_, fun i hi => ?_, ⟨?_, ?_, ?_⟩, ?_, ?_⟩
  · rw [mst_row _ _ _ (by omega)]; exact h1 i hi
  · rw [ms_r]
    show pu (I (f + 2)) k (nI v) i = nI (pu (flW A) k v i)
    by_cases e : i = k
    · rw [e, pu_s, pu_s]
    · rw [pu_n e, pu_n e]
      exact h2 i hi
  · rw [mst_row _ _ _ (by omega)]; exact h3 i hi
  · rw [mst_row _ _ _ (by omega)]; exact h4 i hi
  · rw [mst_row _ _ _ (by omega)]; exact h5 i hi
  · rw [mst_row _ _ _ (by omega)]; exact h6 i hi
  · rw [mst_row _ _ _ (by omega)]; exact h7
  · rw [mst_row _ _ _ (by omega)]; exact h8
  · rw [mst_row _ _ _ (by omega)]; exact h9
  · rw [mst_row _ _ _ (by omega)]; exact h10
  · rw [mst_row _ _ _ (by omega)]; exact h11
theorem MG.sW {ni : Nat} {S : Nat → Int32} {k v : Nat} {A : Fl} (h : MG ni S A) (hk : k < 16) (hi0 : ni ≤ 10) (hB : (flB A).length ≤ 864) (hC : (flC A).length ≤ 16) : MG ni (pu S (330 + k) (nI v)) (setW A k v) := by
  obtain ⟨h1, h2, h3, h4, h5, h6, ⟨h7, h8⟩, h10, h11⟩ := h
  refine ⟨fun i hi => ?_, fun i hi => ?_, fun i hi => ?_, fun i hi => ?_, fun i hi => ?_, fun i hi => ?_, ⟨?_, fun j c hj => ?_⟩, ?_, fun j c hj => ?_⟩
  · rw [pu_n (by omega)]; exact h1 i hi
  · show pu S (330 + k) (nI v) (330 + i) = nI (pu (flW A) k v i)
    by_cases e : i = k
    · rw [e, pu_s, pu_s]
    · rw [pu_n (by omega), pu_n e]
      exact h2 i hi
  · rw [pu_n (by omega)]; exact h3 i hi
  · rw [pu_n (by omega)]; exact h4 i hi
  · rw [pu_n (by omega)]; exact h5 i hi
  · rw [pu_n (by omega)]; exact h6 i hi
  · rw [pu_n (by omega)]; exact h7
  · have hj' : j < (flB A).length := ls_lt hj
    rw [pu_n (by omega)]; exact h8 j c hj
  · rw [pu_n (by omega)]; exact h10
  · have hj' : j < (flC A).length := ls_lt hj
    rw [pu_n (by omega)]; exact h11 j c hj
theorem CG.sH {ni : Nat} {I : MI} {f k v : Nat} {A : Fl} (h : CG ni I f A) : CG ni (mst I (f + 3) k (nI v - 1)) f (setH A k v) := by
  obtain ⟨h1, h2, h3, h4, h5, h6, ⟨h7, h8, h9⟩, h10, h11⟩ := h
  refine ⟨fun i hi => ?_, fun i hi => ?_, fun i hi => ?_, fun i hi => ?_, fun i hi => ?_, fun i hi => ?_, ⟨?_, ?_, ?_⟩, ?_, ?_⟩
  · rw [mst_row _ _ _ (by omega)]; exact h1 i hi
  · rw [mst_row _ _ _ (by omega)]; exact h2 i hi
  · rw [ms_r]
    show pu (I (f + 3)) k (nI v - 1) i = nI (pu (flH A) k v i) - 1
    by_cases e : i = k
    · rw [e, pu_s, pu_s]
    · rw [pu_n e, pu_n e]
      exact h3 i hi
  · rw [mst_row _ _ _ (by omega)]; exact h4 i hi
  · rw [mst_row _ _ _ (by omega)]; exact h5 i hi
  · rw [mst_row _ _ _ (by omega)]; exact h6 i hi
  · rw [mst_row _ _ _ (by omega)]; exact h7
  · rw [mst_row _ _ _ (by omega)]; exact h8
  · rw [mst_row _ _ _ (by omega)]; exact h9
  · rw [mst_row _ _ _ (by omega)]; exact h10
  · rw [mst_row _ _ _ (by omega)]; exact h11
theorem MG.sH {ni : Nat} {S : Nat → Int32} {k v : Nat} {A : Fl} (h : MG ni S A) (hk : k < 16) (hi0 : ni ≤ 10) (hB : (flB A).length ≤ 864) (hC : (flC A).length ≤ 16) : MG ni (pu S (346 + k) (nI v - 1)) (setH A k v) := by
  obtain ⟨h1, h2, h3, h4, h5, h6, ⟨h7, h8⟩, h10, h11⟩ := h
  refine ⟨fun i hi => ?_, fun i hi => ?_, fun i hi => ?_, fun i hi => ?_, fun i hi => ?_, fun i hi => ?_, ⟨?_, fun j c hj => ?_⟩, ?_, fun j c hj => ?_⟩
  · rw [pu_n (by omega)]; exact h1 i hi
  · rw [pu_n (by omega)]; exact h2 i hi
  · show pu S (346 + k) (nI v - 1) (346 + i) = nI (pu (flH A) k v i) - 1
    by_cases e : i = k
    · rw [e, pu_s, pu_s]
    · rw [pu_n (by omega), pu_n e]
      exact h3 i hi
  · rw [pu_n (by omega)]; exact h4 i hi
  · rw [pu_n (by omega)]; exact h5 i hi
  · rw [pu_n (by omega)]; exact h6 i hi
  · rw [pu_n (by omega)]; exact h7
  · have hj' : j < (flB A).length := ls_lt hj
    rw [pu_n (by omega)]; exact h8 j c hj
  · rw [pu_n (by omega)]; exact h10
  · have hj' : j < (flC A).length := ls_lt hj
    rw [pu_n (by omega)]; exact h11 j c hj
theorem CG.sO {ni : Nat} {I : MI} {f k v : Nat} {A : Fl} (h : CG ni I f A) : CG ni (mst I (f + 4) k (nI v - 1)) f (setO A k v) := by
  obtain ⟨h1, h2, h3, h4, h5, h6, ⟨h7, h8, h9⟩, h10, h11⟩ := h
  refine ⟨fun i hi => ?_, fun i hi => ?_, fun i hi => ?_, fun i hi => ?_, fun i hi => ?_, fun i hi => ?_, ⟨?_, ?_, ?_⟩, ?_, ?_⟩
  · rw [mst_row _ _ _ (by omega)]; exact h1 i hi
  · rw [mst_row _ _ _ (by omega)]; exact h2 i hi
  · rw [mst_row _ _ _ (by omega)]; exact h3 i hi
  · rw [ms_r]
    show pu (I (f + 4)) k (nI v - 1) i = nI (pu (flO A) k v i) - 1
    by_cases e : i = k
    · rw [e, pu_s, pu_s]
    · rw [pu_n e, pu_n e]
      exact h4 i hi
  · rw [mst_row _ _ _ (by omega)]; exact h5 i hi
  · rw [mst_row _ _ _ (by omega)]; exact h6 i hi
  · rw [mst_row _ _ _ (by omega)]; exact h7
  · rw [mst_row _ _ _ (by omega)]; exact h8
  · rw [mst_row _ _ _ (by omega)]; exact h9
  · rw [mst_row _ _ _ (by omega)]; exact h10
  · rw [mst_row _ _ _ (by omega)]; exact h11
theorem MG.sO {ni : Nat} {S : Nat → Int32} {k v : Nat} {A : Fl} (h : MG ni S A) (hk : k < 8) (hi0 : ni ≤ 10) (hB : (flB A).length ≤ 864) (hC : (flC A).length ≤ 16) : MG ni (pu S (362 + k) (nI v - 1)) (setO A k v) := by
  obtain ⟨h1, h2, h3, h4, h5, h6, ⟨h7, h8⟩, h10, h11⟩ := h
  refine ⟨fun i hi => ?_, fun i hi => ?_, fun i hi => ?_, fun i hi => ?_, fun i hi => ?_, fun i hi => ?_, ⟨?_, fun j c hj => ?_⟩, ?_, fun j c hj => ?_⟩
  · rw [pu_n (by omega)]; exact h1 i hi
  · rw [pu_n (by omega)]; exact h2 i hi
  · rw [pu_n (by omega)]; exact h3 i hi
  · show pu S (362 + k) (nI v - 1) (362 + i) = nI (pu (flO A) k v i) - 1
    by_cases e : i = k
    · rw [e, pu_s, pu_s]
    · rw [pu_n (by omega), pu_n e]
      exact h4 i hi
  · rw [pu_n (by omega)]; exact h5 i hi
  · rw [pu_n (by omega)]; exact h6 i hi
  · rw [pu_n (by omega)]; exact h7
  · have hj' : j < (flB A).length := ls_lt hj
    rw [pu_n (by omega)]; exact h8 j c hj
  · rw [pu_n (by omega)]; exact h10
  · have hj' : j < (flC A).length := ls_lt hj
    rw [pu_n (by omega)]; exact h11 j c hj
theorem CG.sA {ni : Nat} {I : MI} {f k v : Nat} {A : Fl} (h : CG ni I f A) : CG ni (mst I (f + 5) k (nI v)) f (setA A k v) := by
  obtain ⟨h1, h2, h3, h4, h5, h6, ⟨h7, h8, h9⟩, h10, h11⟩ := h
  refine ⟨fun i hi => ?_, fun i hi => ?_, fun i hi => ?_, fun i hi => ?_, fun i hi => ?_, fun i hi => ?_, ⟨?_, ?_, ?_⟩, ?_, ?_⟩
  · rw [mst_row _ _ _ (by omega)]; exact h1 i hi
  · rw [mst_row _ _ _ (by omega)]; exact h2 i hi
  · rw [mst_row _ _ _ (by omega)]; exact h3 i hi
  · rw [mst_row _ _ _ (by omega)]; exact h4 i hi
  · rw [ms_r]
    show pu (I (f + 5)) k (nI v) i = nI (pu (flA A) k v i)
    by_cases e : i = k
    · rw [e, pu_s, pu_s]
    · rw [pu_n e, pu_n e]
      exact h5 i hi
  · rw [mst_row _ _ _ (by omega)]; exact h6 i hi
  · rw [mst_row _ _ _ (by omega)]; exact h7
  · rw [mst_row _ _ _ (by omega)]; exact h8
  · rw [mst_row _ _ _ (by omega)]; exact h9
  · rw [mst_row _ _ _ (by omega)]; exact h10
  · rw [mst_row _ _ _ (by omega)]; exact h11
theorem MG.sA {ni : Nat} {S : Nat → Int32} {k v : Nat} {A : Fl} (h : MG ni S A) (hk : k < 160) (hi0 : ni ≤ 10) (hB : (flB A).length ≤ 864) (hC : (flC A).length ≤ 16) : MG ni (pu S (10 + k) (nI v)) (setA A k v) := by
  obtain ⟨h1, h2, h3, h4, h5, h6, ⟨h7, h8⟩, h10, h11⟩ := h
  refine ⟨fun i hi => ?_, fun i hi => ?_, fun i hi => ?_, fun i hi => ?_, fun i hi => ?_, fun i hi => ?_, ⟨?_, fun j c hj => ?_⟩, ?_, fun j c hj => ?_⟩
  · rw [pu_n (by omega)]; exact h1 i hi
  · rw [pu_n (by omega)]; exact h2 i hi
  · rw [pu_n (by omega)]; exact h3 i hi
  · rw [pu_n (by omega)]; exact h4 i hi
  · show pu S (10 + k) (nI v) (10 + i) = nI (pu (flA A) k v i)
    by_cases e : i = k
    · rw [e, pu_s, pu_s]
    · rw [pu_n (by omega), pu_n e]
      exact h5 i hi
  · rw [pu_n (by omega)]; exact h6 i hi
  · rw [pu_n (by omega)]; exact h7
  · have hj' : j < (flB A).length := ls_lt hj
    rw [pu_n (by omega)]; exact h8 j c hj
  · rw [pu_n (by omega)]; exact h10
  · have hj' : j < (flC A).length := ls_lt hj
    rw [pu_n (by omega)]; exact h11 j c hj
theorem CG.sL {ni : Nat} {I : MI} {f k v : Nat} {A : Fl} (h : CG ni I f A) : CG ni (mst I (f + 6) k (nI v)) f (setL A k v) := by
  obtain ⟨h1, h2, h3, h4, h5, h6, ⟨h7, h8, h9⟩, h10, h11⟩ := h
  refine ⟨fun i hi => ?_, fun i hi => ?_, fun i hi => ?_, fun i hi => ?_, fun i hi => ?_, fun i hi => ?_, ⟨?_, ?_, ?_⟩, ?_, ?_⟩
  · rw [mst_row _ _ _ (by omega)]; exact h1 i hi
  · rw [mst_row _ _ _ (by omega)]; exact h2 i hi
  · rw [mst_row _ _ _ (by omega)]; exact h3 i hi
  · rw [mst_row _ _ _ (by omega)]; exact h4 i hi
  · rw [mst_row _ _ _ (by omega)]; exact h5 i hi
  · rw [ms_r]
    show pu (I (f + 6)) k (nI v) i = nI (pu (flL A) k v i)
    by_cases e : i = k
    · rw [e, pu_s, pu_s]
    · rw [pu_n e, pu_n e]
      exact h6 i hi
  · rw [mst_row _ _ _ (by omega)]; exact h7
  · rw [mst_row _ _ _ (by omega)]; exact h8
  · rw [mst_row _ _ _ (by omega)]; exact h9
  · rw [mst_row _ _ _ (by omega)]; exact h10
  · rw [mst_row _ _ _ (by omega)]; exact h11
theorem MG.sL {ni : Nat} {S : Nat → Int32} {k v : Nat} {A : Fl} (h : MG ni S A) (hk : k < 160) (hi0 : ni ≤ 10) (hB : (flB A).length ≤ 864) (hC : (flC A).length ≤ 16) : MG ni (pu S (170 + k) (nI v)) (setL A k v) := by
  obtain ⟨h1, h2, h3, h4, h5, h6, ⟨h7, h8⟩, h10, h11⟩ := h
  refine ⟨fun i hi => ?_, fun i hi => ?_, fun i hi => ?_, fun i hi => ?_, fun i hi => ?_, fun i hi => ?_, ⟨?_, fun j c hj => ?_⟩, ?_, fun j c hj => ?_⟩
  · rw [pu_n (by omega)]; exact h1 i hi
  · rw [pu_n (by omega)]; exact h2 i hi
  · rw [pu_n (by omega)]; exact h3 i hi
  · rw [pu_n (by omega)]; exact h4 i hi
  · rw [pu_n (by omega)]; exact h5 i hi
  · show pu S (170 + k) (nI v) (170 + i) = nI (pu (flL A) k v i)
    by_cases e : i = k
    · rw [e, pu_s, pu_s]
    · rw [pu_n (by omega), pu_n e]
      exact h6 i hi
  · rw [pu_n (by omega)]; exact h7
  · have hj' : j < (flB A).length := ls_lt hj
    rw [pu_n (by omega)]; exact h8 j c hj
  · rw [pu_n (by omega)]; exact h10
  · have hj' : j < (flC A).length := ls_lt hj
    rw [pu_n (by omega)]; exact h11 j c hj
theorem ls_app {l : List Nat} {c k d : Nat} (h : (l ++ [c])[k]? = some d) : l[k]? = some d ∨ k = l.length ∧ d = c := by
  by_cases hk : k < l.length
  · rw [List.getElem?_append_left hk] at h
    exact Or.inl h
  · rw [List.getElem?_append_right (by omega)] at h
    have := ls_lt h
    simp only [List.length_cons, List.length_nil] at this
    have e : k = l.length := by omega
    subst e
    rw [Nat.sub_self] at h
    exact Or.inr ⟨rfl, (Option.some.inj h).symm⟩
theorem CG.sC {ni : Nat} {I : MI} {f o : Nat} {A : Fl} (h : CG ni I f A) : CG ni (mst (mst I (f + 7) (flC A).length (nI o)) f 7 (nI ((flC A).length + 1))) f (setC A (flC A ++ [o])) := by
  obtain ⟨h1, h2, h3, h4, h5, h6, ⟨h7, h8, h9⟩, h10, h11⟩ := h
  have er : ∀ r, 1 ≤ r → r ≠ 7 → mst (mst I (f + 7) (flC A).length (nI o)) f 7 (nI ((flC A).length + 1)) (f + r) = I (f + r) := fun r h1 h2 => by rw [mst_row _ _ _ (by omega), mst_row _ _ _ (by omega)]
  refine ⟨by rw [er 1 (by omega) (by omega)]; exact h1, by rw [er 2 (by omega) (by omega)]; exact h2, by rw [er 3 (by omega) (by omega)]; exact h3, by rw [er 4 (by omega) (by omega)]; exact h4, by rw [er 5 (by omega) (by omega)]; exact h5, by rw [er 6 (by omega) (by omega)]; exact h6, ⟨?_, ?_, by rw [er 8 (by omega) (by omega)]; exact h9⟩, ?_, fun k d hk => ?_⟩
  · rw [mst_ne _ _ (Or.inr (by omega)), mst_ne _ _ (Or.inl (by omega))]; exact h7
  · rw [mst_ne _ _ (Or.inr (by omega)), mst_ne _ _ (Or.inl (by omega))]; exact h8
  · rw [mst_self]
    show _ = nI (flC A ++ [o]).length
    rw [List.length_append]
    rfl
  · rw [mst_row _ _ _ (by omega), ms_r]
    rcases ls_app hk with q | ⟨q1, q2⟩
    · have := ls_lt q
      rw [pu_n (by omega)]
      exact h11 k d q
    · rw [q1, q2, Nat.zero_add, pu_s]
theorem MG.sC {ni : Nat} {S : Nat → Int32} {o : Nat} {A : Fl} (h : MG ni S A) (hi0 : ni ≤ 10) (hB : (flB A).length ≤ 864) (hC : (flC A).length < 16) : MG ni (pu (pu S (2101 + (flC A).length) (nI o)) 2100 (nI ((flC A).length + 1))) (setC A (flC A ++ [o])) := by
  obtain ⟨h1, h2, h3, h4, h5, h6, ⟨h7, h8⟩, h10, h11⟩ := h
  have er : ∀ r, r < 2100 → pu (pu S (2101 + (flC A).length) (nI o)) 2100 (nI ((flC A).length + 1)) r = S r := fun r h1 => by rw [pu_n (by omega), pu_n (by omega)]
  refine ⟨fun i hi => by rw [er _ (by omega)]; exact h1 i hi, fun i hi => by rw [er _ (by omega)]; exact h2 i hi, fun i hi => by rw [er _ (by omega)]; exact h3 i hi, fun i hi => by rw [er _ (by omega)]; exact h4 i hi, fun i hi => by rw [er _ (by omega)]; exact h5 i hi, fun i hi => by rw [er _ (by omega)]; exact h6 i hi, ⟨by rw [er _ (by omega)]; exact h7, fun j c hj => ?_⟩, ?_, fun k d hk => ?_⟩
  · have hj' : j < (flB A).length := ls_lt hj
    rw [er _ (by omega)]
    exact h8 j c hj
  · rw [pu_s]
    show _ = nI (flC A ++ [o]).length
    rw [List.length_append]
    rfl
  · rw [pu_n (by omega)]
    rcases ls_app hk with q | ⟨q1, q2⟩
    · have := ls_lt q
      rw [pu_n (by omega)]
      exact h11 k d q
    · rw [q1, q2, pu_s]
