/-! the orders of a set, the least first, and the step from one to the next -/
def plm (mf : Nat → Nat → Bool) : Nat → Nat → List (List Nat)
  | 0, _ => [[]]
  | n + 1, b => (List.range 7).flatMap fun g => if mf b g then (plm mf n (b ||| 2 ^ g)).map (fun l => g :: l) else []
def mfA (all : Nat) (b g : Nat) : Bool := all.testBit g && !b.testBit g
def nx_i (r : Nat → Nat) : Nat → Nat
  | 0 => 0
  | k + 1 => if r (k + 1) < r k then nx_i r k else k + 1
def nx_j (r : Nat → Nat) (v : Nat) : Nat → Nat
  | 0 => 0
  | j + 1 => if r (j + 1) < v then nx_j r v j else j + 1
def nx_s (r : Nat → Nat) (i j : Nat) : Nat → Nat := fun x => if x = i then r j else if x = j then r i else r x
def nx_r (r : Nat → Nat) (i n : Nat) : Nat → Nat := fun x => if i < x ∧ x < n then r (n + i - x) else r x
def nextL (n : Nat) (l : List Nat) : Option (List Nat) :=
  let r := fun x => l.getD x 0
  match nx_i r (n - 1) with
  | 0 => none
  | i + 1 => some ((List.range n).map (nx_r (nx_s r i (nx_j r (r i) (n - 1))) i n))
def chkL (n : Nat) : List (List Nat) → Bool
  | [] => true
  | [l] => nextL n l == none
  | l :: m :: r => (nextL n l == some m) && chkL n (m :: r)
theorem chk_a : ∀ g, g < 7 → chkL g (plm (mfA (2 ^ g - 1)) g 0) = true := by decide +kernel
theorem chk_7 : chkL 7 (plm (mfA (2 ^ 7 - 1)) 7 0) = true := by decide +kernel
theorem chk_w : ∀ g, g < 8 → ∀ w, w < g → chkL (g - 1) (plm (mfA ((2 ^ g - 1) ^^^ ((2 ^ g - 1) &&& 2 ^ w))) (g - 1) 0) = true := by decide +kernel
