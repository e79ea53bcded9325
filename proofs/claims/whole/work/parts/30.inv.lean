/-! what a village is, as numbers: scalars by their slots, rows by their slots; and how class and reference hold it -/
abbrev AV : Type := (Nat → Nat) × (Nat → Nat → Nat)
def Valid (a : AV) : Prop := a.1 0 ≤ 5 ∧ a.1 5 < 2 ^ a.1 0 ∧ a.1 6 ≤ 9 ∧ a.1 7 < 2 ^ a.1 0 ∧ a.1 8 ≤ 5 ∧ a.1 11 ≤ 4 ∧ a.1 15 ≤ 10 ∧
  (∀ i, i < a.1 0 → a.2 1 i ≤ 4 ∧ a.2 2 i ≤ 9 ∧ 1 ≤ a.2 3 i ∧ a.2 3 i ≤ 9 ∧ a.2 4 i ≤ 9) ∧
  (∀ i, i < a.1 8 → a.2 9 i < a.1 0 ∧ a.2 10 i ≤ 20) ∧
  (∀ i, i < a.1 11 → a.2 12 i < a.1 0 ∧ a.2 13 i ≤ 20 ∧ a.2 14 i < 2 ^ a.1 0) ∧
  (∀ i, i < a.1 15 → a.2 16 i < 2 ^ a.1 0)
def RX (v : US) (a : AV) : Prop := v.1 0 = nI (a.1 0) ∧ v.1 5 = nI (a.1 5) ∧ v.1 6 = nI (a.1 6) ∧ v.1 7 = nI (a.1 7) ∧ v.1 8 = nI (a.1 8) ∧ v.1 11 = nI (a.1 11) ∧ v.1 15 = nI (a.1 15) ∧
  (∀ i, i < a.1 0 → v.2.2 1 i = nI (a.2 1 i) ∧ v.2.2 2 i = nI (a.2 2 i) ∧ v.2.2 3 i = nI (a.2 3 i) ∧ v.2.2 4 i = nI (a.2 4 i)) ∧
  (∀ i, i < a.1 8 → v.2.2 9 i = nI (a.2 9 i) ∧ v.2.2 10 i = nI (a.2 10 i)) ∧
  (∀ i, i < a.1 11 → v.2.2 12 i = nI (a.2 12 i) ∧ v.2.2 13 i = nI (a.2 13 i) ∧ v.2.2 14 i = nI (a.2 14 i)) ∧
  (∀ i, i < a.1 15 → v.2.2 16 i = nI (a.2 16 i))
def RM (w : Nat → Int32) (a : AV) : Prop := w 0 = nI (a.1 0) ∧ w 26 = nI (a.1 6) ∧ w 27 = nI (a.1 7) ∧ w 28 = nI (a.1 8) ∧ w 39 = nI (a.1 11) ∧ w 52 = nI (a.1 15) ∧
  (∀ i, i < a.1 0 → w (1 + 5 * i) = nI (a.2 1 i) ∧ w (2 + 5 * i) = nI (a.2 2 i) ∧ w (3 + 5 * i) = nI (a.2 3 i) ∧ w (4 + 5 * i) = nI (a.2 4 i) ∧ w (5 + 5 * i) = nI (a.1 5 / 2 ^ i % 2)) ∧
  (∀ i, i < a.1 8 → w (29 + 2 * i) = nI (a.2 9 i) ∧ w (30 + 2 * i) = nI (a.2 10 i)) ∧
  (∀ i, i < a.1 11 → w (40 + 3 * i) = nI (a.2 12 i) ∧ w (41 + 3 * i) = nI (a.2 13 i) ∧ w (42 + 3 * i) = nI (a.2 14 i)) ∧
  (∀ i, i < a.1 15 → w (53 + i) = nI (a.2 16 i))
def Both (v : US) (w : Nat → Int32) : Prop := ∃ a : AV, Valid a ∧ RX v a ∧ RM w a
def ImR (o : Option US) (vm : US) (i : Nat) : Prop := (o = none ∧ vm.2.2 2 i = 0) ∨ ∃ v, o = some v ∧ vm.2.2 2 i = 1 ∧ Both v (fun k => vm.2.2 1 (63 * i + k))
def TxR (vob : US) (tx : Nat → Int32) (vm : US) : Prop := ∃ n : Nat, n ≤ 200 ∧ vob.1 3 = nI n ∧ vm.1 17 = nI n ∧ ∀ k, k < n → tx k = vm.2.2 16 k ∧ ∃ j : Nat, j < 256 ∧ tx k = nI j
def Inv (vob vn : US) (tx : Nat → Int32) (i0 i1 : Option US) (vm : US) (w : Nat → Int32) : Prop := Both vn w ∧ ImR i0 vm 0 ∧ ImR i1 vm 1 ∧ TxR vob tx vm ∧ (vob.1 6 = vm.2.2 3 0 ∧ vob.1 7 = vm.2.2 3 1 ∧ vob.1 8 = vm.2.2 3 2) ∧ vob.2.1 4 = vm.2.1 4 ∧ vob.2.1 5 = vm.2.1 5

def imU (G : GG) (im : Option (Nat × (Nat → Nat) × US)) : va_W := match im with
  | none => []
  | some q => uX9 G q.1 q.2.1 q.2.2
theorem lg_cmp_same {x y : Int64} (h : x = y) : lg_cmp x y = 0 := by
  subst h
  unfold lg_cmp
  rw [if_neg (by simp), if_pos rfl]
