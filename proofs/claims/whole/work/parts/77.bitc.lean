/-! HOW MANY BITS: the row of sums that the library member makes, for masks of 18 bits -/
def n1B (v : Nat) : Nat := v - ((v / 2) &&& 1431655765)
def n2B (x : Nat) : Nat := (x &&& 858993459) + ((x / 4) &&& 858993459)
def n3B (x : Nat) : Nat := (x + x / 16) &&& 252645135
def n4B (x : Nat) : Nat := x + x / 256
def n5B (x : Nat) : Nat := x + x / 65536
def bcB (v : Nat) : Nat := n5B (n4B (n3B (n2B (n1B v)))) &&& 63
def ppB : Nat → Nat → Nat
  | 0, _ => 0
  | k + 1, v => v % 2 + ppB k (v / 2)
def alB (f : Nat → Bool) : Nat → Bool
  | 0 => true
  | n + 1 => f n && alB f n
theorem bc_all : alB (fun a => alB (fun b => Nat.beq (bcB (a * 512 + b)) (ppB 9 b + ppB 9 a)) 512) 512 = true := by decide +kernel
