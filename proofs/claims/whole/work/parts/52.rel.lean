
/-- the reference's field k: its number, or its row's j-th -/
def mv (b : pSt) (k j : Nat) : Int32 := if kd 11 k = 1 then rd b (fr 159 k) j else rd b 159 k
/-- x is a number of 0 .. n -/
def nb (x : Int32) (n : Nat) : Prop := ∃ k : Nat, k ≤ n ∧ x = nI k
/-! a hedge (cell hc) beside a row of now's form, with what doesn't change in minutes -/
def hW (wa sp nw : Nat → Int32) (i k : Nat) : Int32 := if k = 0 then wa i else if k = 1 then sp i else if k = 2 then nw (7 + i) else nw (19 + i)
def hG (nw : Nat → Int32) (i k : Nat) : Int32 := nw (31 + 8 * k + i)
def hM (ma pa nw : Nat → Int32) (i k : Nat) : Int32 := if k = 0 then ma i else if k = 1 then nw (63 + i) else if k = 2 then pa i else if k = 3 then nw (73 + i) else nw (83 + i)
def RHd (a : pSt) (hc cw cg cm : Nat) (wa sp ma pa nw : Nat → Int32) : Prop :=
  RRow a (fr hc 0) cw (hW wa sp nw) ∧ RRow a (fr hc 1) cg (hG nw) ∧ RRow a (fr hc 2) cm (hM ma pa nw) ∧
  rd a hc 3 = nw 3 ∧ rd a hc 4 = nw 4 ∧ rd a hc 5 = nw 5 ∧ rd a hc 6 = nw 6 ∧ rd a hc 7 = nw 0 ∧ rd a hc 8 = nw 1
/-- bounds that hold of the numbers -/
def VB (cw cg cm : Nat) (wa sp ma pa nw : Nat → Int32) : Prop :=
  (∀ w, w < cw → nb (wa w) 19 ∧ (∃ p q : Nat, sp w = nI p ∧ 1 ≤ p ∧ p ≤ 30 ∧ nw (7 + w) = nI q ∧ q ≤ 3 * p) ∧ (nw (19 + w) = 0 ∨ nw (19 + w) = 1)) ∧
  (∀ g, g < cg → nb (nw (31 + g)) 19 ∧ nb (nw (39 + g)) 19 ∧ nb (nw (47 + g)) 40) ∧
  (∀ m, m < cm → nb (ma m) 19 ∧ nb (nw (63 + m)) 99 ∧ (∃ p : Nat, pa m = nI p ∧ 1 ≤ p ∧ p ≤ 9))
/-! the texts -/
def stp (kind value op arg : Int32) : Prop :=
  (op = 0 ∧ kind = 2 ∧ value = arg ∧ nb arg 9999) ∨ (op = 1 ∧ (∃ q : Nat, q < 9 ∧ arg = nI q ∧ kind = nI (20 + q))) ∨ (op = 2 ∧ kind = 4) ∨ (op = 3 ∧ kind = 5) ∨ (op = 4 ∧ kind = 6) ∨ (op = 5 ∧ kind = 7) ∨ (op = 6 ∧ kind = 10) ∨ (op = 7 ∧ kind = 11) ∨ (op = 8 ∧ kind = 12) ∨ (op = 9 ∧ kind = 19) ∨ (op = 10 ∧ kind = 18) ∨ (op = 11 ∧ kind = 17)
/-- what a code does to a stack of kinds (true: 0 or 1) -/
def tstep (op : Int32) (t t' : List Bool) : Prop :=
  ((op = 0 ∨ op = 1) ∧ t' = false :: t) ∨ ((op = 2 ∨ op = 3 ∨ op = 4 ∨ op = 5) ∧ ∃ u, t = false :: false :: u ∧ t' = false :: u) ∨ ((op = 6 ∨ op = 7 ∨ op = 8) ∧ ∃ u, t = false :: false :: u ∧ t' = true :: u) ∨ (op = 9 ∧ ∃ u, t = true :: u ∧ t' = true :: u) ∨ ((op = 10 ∨ op = 11) ∧ ∃ u, t = true :: true :: u ∧ t' = true :: u)
/-- the codes of i .. j - 1 come to one value of a kind, with at most 32 on the stack, parts by numbers that aren't 0 -/
def wfc (op arg : Nat → Int32) (i j : Nat) (ty : Bool) : Prop :=
  ∃ T : Nat → List Bool, T i = [] ∧ T j = [ty] ∧ ∀ k, i ≤ k → k < j → (T k).length ≤ 31 ∧ tstep (op k) (T k) (T (k + 1)) ∧ (op k = 5 → i < k ∧ op (k - 1) = 0 ∧ arg (k - 1) ≠ 0)
def lnW (V : Nat → Nat → Int32) (i k : Nat) : Int32 := if k = 0 then V 22 i else if k = 1 then V 23 i else if k = 2 then V 24 i else V 25 i
def RLaw (a : pSt) (lc : Nat) (V : Nat → Nat → Int32) : Prop :=
  ∃ (ll nc : Nat) (g : Nat → Nat → Int32), RRow a (fr lc 0) ll (lnW V) ∧ V 21 0 = nI ll ∧ RRow a (fr lc 1) nc g ∧ (∀ i, i < nc → stp (g i 0) (g i 1) (V 26 i) (V 27 i)) ∧
    ∀ l, l < ll → nb (V 22 l) 2 ∧ ∃ x y z : Nat, V 23 l = nI x ∧ V 24 l = nI y ∧ V 25 l = nI z ∧ x ≤ y ∧ y ≤ z ∧ z ≤ nc ∧ wfc (V 26) (V 27) x y false ∧ (y = z ∨ wfc (V 26) (V 27) y z true)
def pth (cg cm : Nat) (p : Nat → Int32) (q : Nat → Int32) : Prop :=
  p 0 = q 0 ∧ nb (q 0) 999 ∧ p 1 = q 1 ∧ (∃ x : Nat, x < cg ∧ q 1 = nI x) ∧
  ((q 2 = 0 ∧ p 2 = 31 ∧ p 3 = q 3 ∧ nb (q 3) 19) ∨ (q 2 = 1 ∧ p 2 = 32 ∧ p 4 = q 3 ∧ (∃ x : Nat, 1 ≤ x ∧ x ≤ 40 ∧ q 3 = nI x)) ∨ (q 2 = 2 ∧ p 2 = 33 ∧ p 3 = q 3 ∧ (∃ x : Nat, x < cm ∧ q 3 = nI x) ∧ p 4 = q 4 ∧ (∃ x : Nat, 1 ≤ x ∧ x ≤ 40 ∧ q 4 = nI x)))
def sky (cw : Nat) (p : Nat → Int32) (q : Nat → Int32) : Prop :=
  p 0 = q 0 ∧ nb (q 0) 999 ∧ p 2 = q 2 ∧ ((∃ k : Nat, k < 3 ∧ q 1 = nI k ∧ p 1 = nI (25 + k) ∧ nb (q 2) 9) ∨ (q 1 = 3 ∧ p 1 = 34 ∧ ∃ x : Nat, x < cw ∧ q 2 = nI x))
def nearS (g : Nat → Nat → Int32) (w : Nat) : Nat → Int32
  | 0 => 0
  | n + 1 =>
    let m := if g n 0 = nI w then nearS g w n ||| ((1 : Int32) <<< (g n 1 &&& 31)) else nearS g w n
    if g n 1 = nI w then m ||| ((1 : Int32) <<< (g n 0 &&& 31)) else m
def RTx (a : pSt) (xc cw cg cm : Nat) (V : Nat → Nat → Int32) : Prop :=
  RLaw a (fr xc 0) V ∧
  (∃ (n : Nat) (g : Nat → Nat → Int32), V 37 0 = nI n ∧ RRow a (fr xc 1) n g ∧ ∀ i, i < n → pth cg cm (g i) (fun j => V 38 (5 * i + j))) ∧
  (∃ (n : Nat) (g : Nat → Nat → Int32), V 39 0 = nI n ∧ RRow a (fr xc 2) n g ∧ ∀ i, i < n → sky cw (g i) (fun j => V 40 (3 * i + j))) ∧
  (∃ (n : Nat) (g : Nat → Nat → Int32), V 41 0 = nI n ∧ RRow a (fr xc 3) n g ∧ (∀ i, i < n → ∃ p q : Nat, p < cw ∧ q < cw ∧ p ≠ q ∧ g i 0 = nI p ∧ g i 1 = nI q) ∧ ∀ w, w < 12 → V 42 w = nearS g w n)
/-! what is told for thought -/
def prW (f h : Nat → Int32) (i k : Nat) : Int32 := if k = 0 then f i else h i
def siW (f : Nat → Int32) (i _k : Nat) : Int32 := f i
def RTh (a : pSt) (tc : Nat) (V : Nat → Nat → Int32) : Prop := ∃ n : Nat, V 45 0 = nI n ∧ RRow a (fr tc 0) n (prW (V 46) (V 47)) ∧ ∀ i, i < n → ∃ p q : Nat, p < 6 ∧ q < 6 ∧ p ≠ q ∧ V 46 i = nI p ∧ V 47 i = nI q
def RSq (a : pSt) (tc : Nat) (V : Nat → Nat → Int32) : Prop := ∀ j, j < 9 → rd a (fr tc 1) j = V 48 j
def RMk (a : pSt) (tc : Nat) (V : Nat → Nat → Int32) : Prop := ∃ n : Nat, V 49 0 = nI n ∧ RRow a (fr tc 2) n (prW (V 50) (V 51)) ∧ (∀ i, i < n → nb (V 50 i) 99 ∧ -99 ≤ (V 51 i).toInt ∧ (V 51 i).toInt ≤ 99) ∧ ∀ i j, i < n → j < n → V 50 i = V 50 j → i = j
def RCh (a : pSt) (tc : Nat) (V : Nat → Nat → Int32) : Prop := ∃ (n : Nat) (g : Nat → Nat → Int32), V 52 0 = nI n ∧ RRow a (fr tc 3) n g ∧ (∀ i, i < n → ∃ p q : Nat, p < 12 ∧ q < 12 ∧ p ≠ q ∧ g i 0 = nI p ∧ g i 1 = nI q ∧ V 53 i = nI (min p q) ∧ V 54 i = nI (max p q)) ∧ ∀ i j k l, i < n → j < n → k < 2 → l < 2 → g i k = g j l → i = j ∧ k = l
def RSt (a : pSt) (tc : Nat) (V : Nat → Nat → Int32) : Prop := ∃ n : Nat, V 55 0 = nI n ∧ RRow a (fr tc 4) n (prW (V 56) (V 57)) ∧ ∀ i, i < n → nb (V 56 i) 20 ∧ nb (V 57 i) 20
def RDg (a : pSt) (tc : Nat) (V : Nat → Nat → Int32) : Prop := ∃ n : Nat, V 58 0 = nI n ∧ RRow a (fr tc 5) n (siW (V 59)) ∧ ∀ i, i < n → nb (V 59 i) 9
def RSg (a : pSt) (tc : Nat) (V : Nat → Nat → Int32) : Prop := ∃ n : Nat, V 61 0 = nI n ∧ RRow a (fr tc 6) n (siW (V 62)) ∧ ∀ i, i < n → nb (V 62 i) 14
def RRn (a : pSt) (tc : Nat) (V : Nat → Nat → Int32) : Prop := ∃ n : Nat, V 65 0 = nI n ∧ RRow a (fr tc 7) n (siW (V 66)) ∧ ∀ i, i < n → nb (V 66 i) 9
def ROp (a : pSt) (tc : Nat) (V : Nat → Nat → Int32) : Prop := (∀ j, 36 ≤ j → (rdl a tc).toBitVec.getLsbD j = false) ∧ ∀ j, j < 36 → V 67 j = if (rdl a tc).toBitVec.getLsbD j then 1 else 0
def RTd (a : pSt) (tc : Nat) (V : Nat → Nat → Int32) : Prop := RTh a tc V ∧ RSq a tc V ∧ RMk a tc V ∧ RCh a tc V ∧ RSt a tc V ∧ RDg a tc V ∧ RSg a tc V ∧ RRn a tc V ∧ ROp a tc V
/-! all that an image has: hedge hc, book lc, texts xc, told tc beside a view V of the reference -/
def bkW (V : Nat → Nat → Int32) (i k : Nat) : Int32 := V 13 (4 * i + k)
def Core (a : pSt) (hc lc xc tc : Nat) (V : Nat → Nat → Int32) (cw cg cm bl : Nat) : Prop :=
  V 6 0 = nI cw ∧ V 7 0 = nI cg ∧ V 8 0 = nI cm ∧ RHd a hc cw cg cm (V 9) (V 10) (V 11) (V 12) (V 1) ∧ VB cw cg cm (V 9) (V 10) (V 11) (V 12) (V 1) ∧
  V 1 2 = nI bl ∧ RRow a lc bl (bkW V) ∧ RTx a xc cw cg cm V ∧ RTd a tc V
/-- where the reference's image has field k's j-th number -/
def imgAt (k j : Nat) : Nat :=
  if k = 1 then j else if k = 6 then 93 else if k = 7 then 94 else if k = 8 then 95 else if k = 37 then 96 else if k = 39 then 97 else if k = 41 then 98 else if k = 45 then 99 else if k = 49 then 100 else if k = 52 then 101 else if k = 55 then 102 else if k = 58 then 103 else if k = 61 then 104 else if k = 65 then 105 else
  if k = 9 then 106 + 7 * j else if k = 10 then 107 + 7 * j else if k = 42 then 108 + 7 * j else if k = 46 then 109 + 7 * j else if k = 47 then 110 + 7 * j else if k = 62 then 111 + 7 * j else if k = 66 then 112 + 7 * j else
  if k = 11 then 190 + 2 * j else if k = 12 then 191 + 2 * j else if k = 38 then 210 + j else if k = 40 then 290 + j else if k = 48 then 338 + j else if k = 50 then 347 + 3 * j else if k = 51 then 348 + 3 * j else if k = 59 then 349 + 3 * j else
  if k = 53 then 371 + 2 * j else if k = 54 then 372 + 2 * j else if k = 56 then 383 + 2 * j else if k = 57 then 384 + 2 * j else if k = 67 then 397 + j else if k = 13 then 433 + j else
  if k = 21 then 1033 else if k = 22 then 1034 + 4 * j else if k = 23 then 1035 + 4 * j else if k = 24 then 1036 + 4 * j else if k = 25 then 1037 + 4 * j else if k = 26 then 1098 + 2 * j else if k = 27 then 1099 + 2 * j else 2399
def mvI (b : pSt) (k j : Nat) : Int32 := mv b 73 (imgAt k j)
/-- what can be undone: the i-th of n -/
def RUn (a b : pSt) (cw cg cm bl : Nat) : Prop :=
  ∃ n fs : Nat, n ≤ 6 ∧ fs < 6 ∧ rd a 72 0 = nI n ∧ mv b 3 0 = nI n ∧ rd a 72 1 = nI fs ∧
    ∀ i, i < n → RHd a (fr 73 ((fs + i) % 6)) cw cg cm (mv b 9) (mv b 10) (mv b 11) (mv b 12) (fun j => mv b 2 (93 * i + j)) ∧ VB cw cg cm (mv b 9) (mv b 10) (mv b 11) (mv b 12) (fun j => mv b 2 (93 * i + j)) ∧
      ∃ k : Nat, k ≤ bl ∧ mv b 2 (93 * i + 2) = nI k ∧ rd a 74 ((fs + i) % 6) = nI k ∧ ∀ i', i' < i → ∃ k' : Nat, k' ≤ k ∧ mv b 2 (93 * i' + 2) = nI k'
def RIm (a b : pSt) : Prop := (rd a 117 0 = 0 ∧ mv b 71 0 = 0) ∨ (rd a 117 0 = 1 ∧ mv b 71 0 = 1 ∧ ∃ cw cg cm bl : Nat, Core a 118 125 127 140 (mvI b) cw cg cm bl)
def RTp (a b : pSt) : Prop := ∃ n : Nat, mv b 15 0 = nI n ∧ RRow a 40 n (siW (mv b 14)) ∧ ∀ i, i < n → nb (mv b 14 i) 255
/-- two by ones on four by four: a set of full places (of 16 bits) is won by who moves; by how many moves can be left -/
def gWon : Nat → Nat → Bool
  | 0, _ => false
  | d + 1, full => (List.range 32).any fun st => let p := st / 2; let two := if st % 2 = 1 then (if p / 4 < 3 then 2 ^ p + 2 ^ (p + 4) else 0) else (if p % 4 < 3 then 3 * 2 ^ p else 0); (two ≠ 0 && (full &&& two) = 0 && !gWon d (full ||| two))
/-- the rows of the draft have numbers of lines that can be -/
def DR (a : pSt) : Prop := ∀ c, c = 45 ∨ c = 47 ∨ c = 50 ∨ c = 52 ∨ c = 54 → ∃ n : Nat, n ≤ lim c ∧ rd a c 3 = nI n
/-- what is known of sets is so -/
def RKn (a : pSt) : Prop := (rd a 69 3 = 0 ∧ DR a) ∧ ∀ x, x < 65536 → let v := ((rd a 158 (x / 16)).toUInt32.toNat / 4 ^ (x % 16)) % 4; v = 0 ∨ (v = 1 ∧ gWon 8 x = false) ∨ (v = 2 ∧ gWon 8 x = true)
/-- CLASS (cells of a) AND REFERENCE (cells of b) ARE ALIKE -/
def SR (a b : pSt) : Prop :=
  (∃ cw cg cm bl : Nat, Core a 1 8 10 23 (mv b) cw cg cm bl ∧ RUn a b cw cg cm bl) ∧ RIm a b ∧ RTp a b ∧ rd a 42 1 = mv b 35 0 ∧ rd a 42 2 = mv b 36 0 ∧ mv b 5 0 = 0 ∧ (∀ j, mv b 20 j = wds j) ∧ RKn a
/-! the start -/
theorem RRow_0 {c : Nat} {f : Nat → Nat → Int32} (h : rd s0 c 3 = 0) : RRow s0 c 0 f := ⟨h, Nat.zero_le _, fun i hi => absurd hi (Nat.not_lt_zero i)⟩
theorem DR_0 : DR s0 := fun c hc => ⟨0, Nat.zero_le _, by rcases hc with rfl | rfl | rfl | rfl | rfl <;> rfl⟩
theorem SR_0 : SR s0 s0 := by
  refine ⟨⟨0, 0, 0, 0, ⟨rfl, rfl, rfl, ⟨RRow_0 rfl, RRow_0 rfl, RRow_0 rfl, rfl, rfl, rfl, rfl, rfl, rfl⟩, ⟨fun w h => absurd h (Nat.not_lt_zero w), fun w h => absurd h (Nat.not_lt_zero w), fun w h => absurd h (Nat.not_lt_zero w)⟩, rfl, RRow_0 rfl, ⟨⟨0, 0, fun _ _ => 0, RRow_0 rfl, rfl, RRow_0 rfl, fun i h => absurd h (Nat.not_lt_zero i), fun i h => absurd h (Nat.not_lt_zero i)⟩, ⟨0, fun _ _ => 0, rfl, RRow_0 rfl, fun i h => absurd h (Nat.not_lt_zero i)⟩, ⟨0, fun _ _ => 0, rfl, RRow_0 rfl, fun i h => absurd h (Nat.not_lt_zero i)⟩, ⟨0, fun _ _ => 0, rfl, RRow_0 rfl, fun i h => absurd h (Nat.not_lt_zero i), fun w _ => rfl⟩⟩, ⟨⟨0, rfl, RRow_0 rfl, fun i h => absurd h (Nat.not_lt_zero i)⟩, fun j _ => rfl, ⟨0, rfl, RRow_0 rfl, fun i h => absurd h (Nat.not_lt_zero i), fun i _ h => absurd h (Nat.not_lt_zero i)⟩, ⟨0, fun _ _ => 0, rfl, RRow_0 rfl, fun i h => absurd h (Nat.not_lt_zero i), fun i _ _ _ h => absurd h (Nat.not_lt_zero i)⟩, ⟨0, rfl, RRow_0 rfl, fun i h => absurd h (Nat.not_lt_zero i)⟩, ⟨0, rfl, RRow_0 rfl, fun i h => absurd h (Nat.not_lt_zero i)⟩, ⟨0, rfl, RRow_0 rfl, fun i h => absurd h (Nat.not_lt_zero i)⟩, ⟨0, rfl, RRow_0 rfl, fun i h => absurd h (Nat.not_lt_zero i)⟩, ⟨fun j _ => by simp [rdl, s0], fun j _ => by simp [rdl, s0]; rfl⟩⟩⟩, 0, 0, by decide, by decide, rfl, rfl, rfl, fun i h => absurd h (Nat.not_lt_zero i)⟩, Or.inl ⟨rfl, rfl⟩, ⟨0, rfl, RRow_0 rfl, fun i h => absurd h (Nat.not_lt_zero i)⟩, rfl, rfl, rfl, fun j => rfl, ⟨rfl, DR_0⟩, fun x _ => ?_⟩
  have : rd s0 158 (x / 16) = 0 := rfl
  rw [this]
  refine Or.inl ?_
  show ((0 : Int32).toUInt32.toNat / 4 ^ (x % 16)) % 4 = 0
  rw [show (0 : Int32).toUInt32.toNat = 0 from by decide, Nat.zero_div]
