/-! how the class's links and the reference's row hold the same -/
def isB (x : Int32) : Prop := ∃ b : Nat, b < 256 ∧ x = nI b
/-- a frame: the pool's frame at the place p, the row's from f on -/
def RF (p f : Nat) (sc ar : Nat → Nat → Int32) (st : Nat → Int32) : Prop := ∃ n : Nat, (n = 6 ∨ (9 ≤ n ∧ n ≤ 32)) ∧ sc p 1 = nI n ∧ st f = nI n ∧ sc p 2 = st (f + 1) ∧ ∀ k, k < n → ar (p + 1) k = st (f + 2 + k) ∧ isB (st (f + 2 + k))
def RW (B w : Nat) (sc ar : Nat → Nat → Int32) (fr : Nat → Nat → Nat) (st : Nat → Int32) : Prop := ∃ n : Nat, n ≤ 12 ∧ sc (B + 19 + 26 * w) 1 = nI n ∧ st (300 + 500 * w) = nI n ∧ (∀ j, j < 12 → ∃ m, m < 12 ∧ fr (B + 20 + 26 * w) j = B + 21 + 26 * w + 2 * m) ∧ (∀ i j, i < 12 → j < 12 → fr (B + 20 + 26 * w) i = fr (B + 20 + 26 * w) j → i = j) ∧ ∀ j, j < n → RF (fr (B + 20 + 26 * w) j) (301 + 500 * w + 36 * j) sc ar st
/-- a packet: its length and bytes at the place i of two rows, and from q on in the reference's row -/
def RK (ls bs : Nat → Int32) (i q : Nat) (st : Nat → Int32) : Prop := ∃ n : Nat, 1 ≤ n ∧ n ≤ 24 ∧ ls i = nI n ∧ st q = nI n ∧ ∀ k, k < n → bs (24 * i + k) = st (q + 1 + k) ∧ isB (st (q + 1 + k))
/-- the numbers of an end: offered, sent, unacked, again, tries, drafted, wanted, handed up -/
def RE (B s : Nat) (o n u g t d w v : Nat) (sc ar : Nat → Nat → Int32) (st : Nat → Int32) : Prop :=
  (g ≤ u ∧ u ≤ n ∧ n ≤ o ∧ o ≤ 60 ∧ o ≤ n + 16 ∧ u ≤ 8 ∧ t < 4 ∧ d ≤ 24 ∧ w < 64) ∧
  (st (100 + 100 * s) = nI o ∧ st (101 + 100 * s) = nI n ∧ st (102 + 100 * s) = nI u ∧ st (103 + 100 * s) = nI ((n - u + 63) % 64) ∧ st (105 + 100 * s) = nI t ∧ st (106 + 100 * s) = nI g ∧ st (107 + 100 * s) = nI w ∧ st (111 + 100 * s) = nI v ∧ st (113 + 100 * s) = nI d) ∧
  (bln (st (108 + 100 * s)) = true ∧ bln (st (110 + 100 * s)) = true ∧ bln (st (112 + 100 * s)) = true) ∧
  (sc (B + 2 + 8 * s) 1 = nI d ∧ sc (B + 2 + 8 * s) 3 = nI o ∧ sc (B + 2 + 8 * s) 4 = nI n ∧ sc (B + 2 + 8 * s) 5 = nI (n - u) ∧ sc (B + 2 + 8 * s) 6 = st (112 + 100 * s) ∧ sc (B + 2 + 8 * s) 7 = st (104 + 100 * s) ∧ sc (B + 2 + 8 * s) 8 = nI t ∧ sc (B + 2 + 8 * s) 9 = nI g ∧ sc (B + 2 + 8 * s) 10 = nI w ∧ sc (B + 2 + 8 * s) 11 = st (108 + 100 * s) ∧ sc (B + 2 + 8 * s) 12 = st (110 + 100 * s) ∧ sc (B + 2 + 8 * s) 13 = st (109 + 100 * s) ∧ sc (B + 2 + 8 * s) 15 = nI v) ∧
  (∀ k, k < d → ar (B + 3 + 8 * s) k = st (120 + 100 * s + k) ∧ isB (st (120 + 100 * s + k))) ∧
  (∀ i, n - u ≤ i → i < o → RK (ar (B + 5 + 8 * s)) (ar (B + 6 + 8 * s)) (i % 24) (1400 + 1600 * s + 25 * i) st) ∧
  (∀ i, i < v → i < 60 → RK (ar (B + 8 + 8 * s)) (ar (B + 9 + 8 * s)) i (4600 + 1600 * s + 25 * i) st)
/-- a link's own numbers, T its ticks -/
def RG (B T : Nat) (sc ar : Nat → Nat → Int32) (st : Nat → Int32) : Prop :=
  T ≤ 20000 ∧ st 3 = nI T ∧ sc B 3 = nI T ∧ sc B 4 = st 4 ∧ sc B 5 = st 0 ∧ sc B 6 = st 1 ∧ sc B 7 = st 2 ∧ (∀ j, 2 ≤ j → j < 9 → ar (B + 71) j = st (j + 3)) ∧ (∀ j, 9 ≤ j → j < 17 → ar (B + 71) j = st (j + 15))
/-- a whole link -/
def RL_ (B : Nat) (sc ar : Nat → Nat → Int32) (fr : Nat → Nat → Nat) (st : Nat → Int32) : Prop :=
  ∃ T, RG B T sc ar st ∧ (∀ s, s < 2 → ∃ o n u g t d w v, v ≤ 12 * T ∧ RE B s o n u g t d w v sc ar st) ∧ ∀ w, w < 2 → RW B w sc ar fr st
/-- the object and the reference: the link at work, and what is kept -/
def Rel (nb : Nat) (kp : Nat → Option Nat) (sc ar : Nat → Nat → Int32) (fr : Nat → Nat → Nat) (st kpM ik : Nat → Int32) : Prop :=
  1 ≤ nb ∧ RL_ 0 sc ar fr st ∧ frIn nb fr ∧ (∀ j, 2 ≤ j → kp j = none) ∧
  (∀ k, k < 2 → (kp k = none ∧ ik k = 0) ∨ ∃ b, 1 ≤ b ∧ b < nb ∧ kp k = some (72 * b) ∧ ik k = 1 ∧ RL_ (72 * b) sc ar fr (fun i => kpM (8000 * k + i))) ∧
  (∀ p, kp 0 = some p → kp 1 ≠ some p)
theorem Rel.kpin {nb : Nat} {kp : Nat → Option Nat} {sc ar : Nat → Nat → Int32} {fr : Nat → Nat → Nat} {st kpM ik : Nat → Int32} (h : Rel nb kp sc ar fr st kpM ik) : ∀ j p, kp j = some p → p < 72 * nb := by
  obtain ⟨h1, -, -, h4, h5, -⟩ := h
  intro j p hj
  rcases Nat.lt_or_ge j 2 with h | h
  · rcases h5 j h with ⟨q, -⟩ | ⟨b, hb1, hb2, q, -⟩
    · rw [hj] at q; cases q
    · rw [hj] at q; cases q; omega
  · rw [h4 j h] at hj; cases hj
