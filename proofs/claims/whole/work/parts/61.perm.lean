/-! NIGHTS: the orders of five plinths, kernel-checked -/
def swl (a b : Nat) (l : List Nat) : List Nat := (l.set a (l.getD b 0)).set b (l.getD a 0)
def wrL : Nat → Nat → Nat → List Nat → List Nat
  | 0, _, _, l => l
  | k + 1, p, r, l => wrL k (p + 1) (r / (p + 1)) (swl (r % (p + 1)) p l)
def wr (s : Nat) : List Nat := wrL 4 1 s [0, 1, 2, 3, 4]
def fnd (l : List Nat) (p : Nat) : Nat → Nat → Nat → Nat
  | 0, _, f => f
  | k + 1, i, f => fnd l p k (i + 1) (if l.getD i 0 = p then i else f)
def nmL : Nat → Nat → List Nat → Nat
  | 0, n, _ => n
  | p + 1, n, l => nmL p (n * (p + 2) + fnd l (p + 1) (p + 1) 1 0) (swl (fnd l (p + 1) (p + 1) 1 0) (p + 1) l)
def nmb (l : List Nat) : Nat := nmL 4 0 l
def tT (a b s : Nat) : Nat := nmb (swl a b (wr s))
def fxP (P s : Nat) : Bool := (List.range 5).all fun p => p < P || (wr s).getD p 0 == p
def prs : List (Nat × Nat) := [(0, 1), (0, 2), (1, 2), (0, 3), (1, 3), (2, 3), (0, 4), (1, 4), (2, 4), (3, 4)]
def ck1 : Bool := (List.range 120).all fun s => nmb (wr s) == s && (wr s).length == 5 && (wr s).all (fun x => x < 5)
def ck2 : Bool := (List.range 120).all fun s => prs.all fun q => tT q.1 q.2 s < 120 && (wr (tT q.1 q.2 s) == swl q.1 q.2 (wr s)) && tT q.1 q.2 (tT q.1 q.2 s) == s
theorem ck1_ok : ck1 = true := by decide +kernel
theorem ck2_ok : ck2 = true := by decide +kernel
/-- the way from the order of now to an order -/
def pth (s : Nat) : List (Nat × Nat) := ([(s % 2, 1), (s / 2 % 3, 2), (s / 6 % 4, 3), (s / 24 % 5, 4)] : List (Nat × Nat)).filter (fun q => q.1 ≠ q.2)
def ck5 : Bool := (List.range 120).all fun s => (pth s).foldl (fun t q => tT q.1 q.2 t) 119 == s && (List.range 6).all fun P => !(fxP P s) || (pth s).all (fun q => q.1 < q.2 && q.2 < P)
theorem ck5_ok : ck5 = true := by decide +kernel
theorem ck7_ok : wr 119 = [0, 1, 2, 3, 4] := by decide +kernel
