/-! what both sides stand for: a text T and a floor A of plain numbers -/
/-- items, orders, holes, orders of a wave, units of a wave; places, dues, needs (by cells 10 * order + item), the orders' numbers by earliness -/
abbrev Tx : Type := (Nat × Nat × Nat × Nat × Nat) × (Nat → Nat) × (Nat → Nat) × (Nat → Nat) × (Nat → Nat)
def tiI (T : Tx) : Nat := T.1.1
def tiO (T : Tx) : Nat := T.1.2.1
def tiH (T : Tx) : Nat := T.1.2.2.1
def tiW (T : Tx) : Nat := T.1.2.2.2.1
def tiU (T : Tx) : Nat := T.1.2.2.2.2
def tiP (T : Tx) : Nat → Nat := T.2.1
def tiD (T : Tx) : Nat → Nat := T.2.2.1
def tiN (T : Tx) : Nat → Nat := T.2.2.2.1
def tiE (T : Tx) : Nat → Nat := T.2.2.2.2
def tot (T : Tx) (o : Nat) : Nat := sm (tiN T) (10 * o) 10
/-- o comes ahead of q -/
def erl (T : Tx) (o q : Nat) : Prop := tiD T o < tiD T q ∨ tiD T o = tiD T q ∧ o < q
/-- a set of numbers below n as bits -/
def bs (p : Nat → Bool) : Nat → Nat
  | 0 => 0
  | n + 1 => bs p n + (if p n then 2 ^ n else 0)
/-- stock, how, hole (0 none, h + 1), orderIn (0 none, o + 1), has, late; units taken from the belt so far; belt, aside, wholes -/
abbrev Fl : Type := ((Nat → Nat) × (Nat → Nat) × (Nat → Nat) × (Nat → Nat) × (Nat → Nat) × (Nat → Nat)) × Nat × List Nat × List Nat × List Nat
def flS (A : Fl) : Nat → Nat := A.1.1
def flW (A : Fl) : Nat → Nat := A.1.2.1
def flH (A : Fl) : Nat → Nat := A.1.2.2.1
def flO (A : Fl) : Nat → Nat := A.1.2.2.2.1
def flA (A : Fl) : Nat → Nat := A.1.2.2.2.2.1
def flL (A : Fl) : Nat → Nat := A.1.2.2.2.2.2
def flT (A : Fl) : Nat := A.2.1
def flB (A : Fl) : List Nat := A.2.2.1
def flD (A : Fl) : List Nat := A.2.2.2.1
def flC (A : Fl) : List Nat := A.2.2.2.2
/-- a list in a row, from a place on -/
def lsr (R : Nat → Int32) (b : Nat) (l : List Nat) : Prop := ∀ k c, l[k]? = some c → R (b + k) = nI c
/-- the class's floor at f -/
def CF (ni : Nat) (I : MI) (f : Nat) (A : Fl) : Prop :=
  (∀ i, i < ni → I (f + 1) i = nI (flS A i)) ∧ (∀ o, o < 16 → I (f + 2) o = nI (flW A o)) ∧ (∀ o, o < 16 → I (f + 3) o = nI (flH A o) - 1) ∧ (∀ h, h < 8 → I (f + 4) h = nI (flO A h) - 1) ∧ (∀ c, c < 160 → I (f + 5) c = nI (flA A c)) ∧ (∀ c, c < 160 → I (f + 6) c = nI (flL A c)) ∧ (I f 9 = nI (flT A) ∧ I f 10 = nI (flT A + (flB A).length) ∧ lsr (I (f + 8)) (flT A) (flB A)) ∧ (I f 12 = nI (flD A).length ∧ lsr (I (f + 9)) 0 (flD A)) ∧ (I f 7 = nI (flC A).length ∧ lsr (I (f + 7)) 0 (flC A))
/-- the reference's row -/
def MF (ni : Nat) (S : Nat → Int32) (A : Fl) : Prop :=
  (∀ i, i < ni → S i = nI (flS A i)) ∧ (∀ o, o < 16 → S (330 + o) = nI (flW A o)) ∧ (∀ o, o < 16 → S (346 + o) = nI (flH A o) - 1) ∧ (∀ h, h < 8 → S (362 + h) = nI (flO A h) - 1) ∧ (∀ c, c < 160 → S (10 + c) = nI (flA A c)) ∧ (∀ c, c < 160 → S (170 + c) = nI (flL A c)) ∧ (S 370 = nI (flB A).length ∧ lsr S 371 (flB A)) ∧ (S 1235 = nI (flD A).length ∧ lsr S 1236 (flD A)) ∧ (S 2100 = nI (flC A).length ∧ lsr S 2101 (flC A))
/-- the class's text at t -/
def CT (I : MI) (t : Nat) (T : Tx) : Prop :=
  (I t 6 = nI (tiI T) ∧ I t 10 = nI (tiO T) ∧ I t 1 = nI (tiH T) ∧ I t 3 = nI (tiW T) ∧ I t 4 = nI (tiU T)) ∧ (∀ i, i < tiI T → I (t + 2) i = nI (tiP T i)) ∧ (∀ o, o < tiO T → I (t + 5) o = nI (tiD T o)) ∧ (∀ c, c < 160 → I (t + 6) c = nI (tiN T c)) ∧ (∀ o, o < 16 → I (t + 7) o = nI (tot T o)) ∧ (∀ o, o < 16 → I (t + 8) o = nI (bs (fun i => decide (0 < tiN T (10 * o + i))) 10)) ∧ (∀ e, e < tiO T → I (t + 9) e = nI (tiE T e))
/-- the reference's text -/
def MT (K : MI) (m : Nat) (T : Tx) : Prop :=
  (K (m + 2) 0 = nI (tiI T) ∧ K (m + 3) 0 = nI (tiO T) ∧ K (m + 4) 0 = nI (tiH T) ∧ K (m + 5) 0 = nI (tiW T) ∧ K (m + 6) 0 = nI (tiU T)) ∧ (∀ i, i < tiI T → K (m + 8) i = nI (tiP T i)) ∧ (∀ o, o < tiO T → K (m + 11) o = nI (tiD T o)) ∧ (∀ c, c < 160 → K (m + 12) c = nI (tiN T c))
/-- a text that can be -/
def GT (T : Tx) : Prop :=
  tiI T ≤ 10 ∧ tiO T ≤ 16 ∧ (1 ≤ tiH T ∧ tiH T ≤ 8) ∧ (1 ≤ tiW T ∧ tiW T ≤ 8) ∧ (1 ≤ tiU T ∧ tiU T ≤ 60) ∧ (∀ i, i < tiI T → tiP T i ≤ 99) ∧ (∀ o, o < tiO T → tiD T o ≤ 99) ∧ (∀ c, c < 160 → tiN T c ≤ 9 ∧ (tiO T ≤ c / 10 ∨ tiI T ≤ c % 10 → tiN T c = 0)) ∧ (∀ o, o < 16 → tot T o ≤ 54 ∧ (o < tiO T → 0 < tot T o)) ∧ (∀ e, e < tiO T → tiE T e < tiO T) ∧ (∀ e e', e < e' → e' < tiO T → erl T (tiE T e) (tiE T e')) ∧ (∀ o, o < tiO T → ∃ e, e < tiO T ∧ tiE T e = o)
/-- the first free hole: 0 none, h + 1 -/
def ff (g : Nat → Nat) : Nat → Nat
  | 0 => 0
  | n + 1 => if ff g n = 0 then (if g n = 0 then n + 1 else 0) else ff g n
def cn (T : Tx) (A : Fl) (o : Nat) : Prop := flW A o = 2 ∨ flW A o = 3 ∨ ff (flO A) (tiH T) ≠ 0
/-- units that an order released needs, by cells -/
def rel (T : Tx) (A : Fl) (c : Nat) : Nat := if flW A (c / 10) = 0 then 0 else tiN T c
def dn (A : Fl) (o : Nat) : Nat := if flW A o = 4 then 1 else 0
/-- a floor that can be, but for units aside that could come -/
def GH (T : Tx) (A : Fl) : Prop :=
  (∀ i, i < tiI T → flS A i ≤ 99) ∧ (∀ o, o < 16 → flW A o ≤ 4 ∧ flH A o ≤ 8 ∧ (flW A o = 2 ↔ flH A o ≠ 0) ∧ (tiO T ≤ o → flW A o = 0) ∧ (flW A o = 4 → sm (flA A) (10 * o) 10 = tot T o)) ∧ (∀ h, h < 8 → flO A h ≤ 16) ∧ (∀ c, c < 160 → flA A c + flL A c + (flB A).count c + (flD A).count c = rel T A c) ∧ (∀ c, c ∈ flB A → c < 160) ∧ (∀ c, c ∈ flD A → c < 160) ∧ (flC A).length = sm (dn A) 0 16 ∧ flT A + (flB A).length + sm (flL A) 0 160 = sm (rel T A) 0 160 ∧ (flD A).length ≤ flT A ∧ (∀ o, o ∈ flC A → o < 16)
def GF (T : Tx) (A : Fl) : Prop := GH T A ∧ ∀ c, c ∈ flD A → ¬ cn T A (c / 10)
/-- the class's floors that are made when first needed: 12 of the past, 2 kept, 1 thought -/
def slt (x : Nat) (z : Sh) (s : Nat) : Option Nat := if s < 12 then zR z (x + 43) s else if s < 14 then zR z (x + 44) (s - 12) else zR z x 12
def Slo (x : Nat) (z : Sh) : Prop := (∀ s a, s < 15 → slt x z s = some a → x + 70 ≤ a ∧ a + 10 ≤ zs z ∧ oX0 z a) ∧ ∀ s s' a a', s < 15 → s' < 15 → s ≠ s' → slt x z s = some a → slt x z s' = some a' → a + 10 ≤ a' ∨ a' + 10 ≤ a
/-- the tape, what can be undone (the latest first), what is kept -/
def CU (x ni : Nat) (z : Sh) (I : MI) (Us : List Fl) (Ks : Nat → Option Fl) : Prop :=
  (∃ p, p < 12 ∧ I x 8 = nI p ∧ ∀ j B, Us[j]? = some B → ∃ a, slt x z ((p + 11 - j) % 12) = some a ∧ CF ni I a B) ∧ I x 9 = nI Us.length ∧ Us.length ≤ 12 ∧ ∀ k, k < 2 → (Ks k = none → I (x + 45) k = 0) ∧ ∀ B, Ks k = some B → I (x + 45) k = 1 ∧ ∃ a, slt x z (12 + k) = some a ∧ CF ni I a B
def MU (m ni : Nat) (K : MI) (Us : List Fl) (Ks : Nat → Option Fl) : Prop :=
  (∀ j B, Us[j]? = some B → MF ni (fun k => K (m + 14) (2117 * (Us.length - 1 - j) + k)) B) ∧ K m 29 = nI Us.length ∧ ∀ k, k < 2 → (Ks k = none → K (m + 16) k = 0) ∧ ∀ B, Ks k = some B → K (m + 16) k = 1 ∧ MF ni (fun i => K (m + 15) (2117 * k + i)) B
/-- the tape: n bytes -/
def CP (a b : Nat) (I : MI) (n : Nat) (tp : Nat → Int32) : Prop := I a b = nI n ∧ ∀ k, k < n → I (a + 1) k = tp k
def GP (n : Nat) (tp : Nat → Int32) : Prop := n ≤ 600 ∧ n % 20 = 0 ∧ ∀ k, k < n → (tp k).toInt8.toInt32 = tp k
def GZ (x t u : Nat) (z : Sh) : Prop := oX4 z x t u ∧ oX5 z (x + 46) ∧ ((x + 69) ∈ zL z ∧ zK z (x + 69) = 8 ∧ zn z (x + 69) = 1) ∧ (t = x + 4 ∧ u = x + 14 ∨ t = x + 14 ∧ u = x + 4) ∧ x + 70 ≤ zs z ∧ Slo x z
/-- all that is held between two calls -/
abbrev Dt : Type := Tx × Fl × Nat × (Nat → Int32) × List Fl × (Nat → Option Fl)
def GD (D : Dt) : Prop := GT D.1 ∧ GF D.1 D.2.1 ∧ GP D.2.2.1 D.2.2.2.1 ∧ (∀ B, B ∈ D.2.2.2.2.1 → GF D.1 B) ∧ ∀ k B, k < 2 → D.2.2.2.2.2 k = some B → GF D.1 B
def CW (x t : Nat) (z : Sh) (I : MI) (D : Dt) : Prop := CT I t D.1 ∧ CF (tiI D.1) I (x + 24) D.2.1 ∧ CP x 1 I D.2.2.1 D.2.2.2.1 ∧ CU x (tiI D.1) z I D.2.2.2.2.1 D.2.2.2.2.2
def MW (m : Nat) (K : MI) (D : Dt) : Prop := MT K m D.1 ∧ MF (tiI D.1) (K (m + 13)) D.2.1 ∧ CP m 2 K D.2.2.1 D.2.2.2.1 ∧ MU m (tiI D.1) K D.2.2.2.2.1 D.2.2.2.2.2
def Inv (x t u : Nat) (z : Sh) (J : MJ) (I : MI) : Prop := ∃ D : Dt, GD D ∧ GZ x t u z ∧ CW x t z I D ∧ MW (x + 46) I D
