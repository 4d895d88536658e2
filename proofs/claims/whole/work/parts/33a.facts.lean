/-! facts of all permutations, by looking at each -/
section QFacts
def cycEnd (x p : Nat) : Nat → Nat → Bool
  | 0, a => a == p
  | k + 1, a => a == p || cycEnd x p k (imgN x a)
def prCyc (x : Nat) : Bool := (List.range 7).all fun p => cycEnd x p 6 (imgN x p)
set_option maxRecDepth 100000 in
set_option maxHeartbeats 4000000 in
theorem prCyc_all : all7 prCyc = true := by decide +kernel
def ordEnd (x : Nat) : Nat → Nat → Bool
  | 0, w => w == 1754760
  | k + 1, w => w == 1754760 || ordEnd x k (cmp w x)
set_option maxRecDepth 100000 in
set_option maxHeartbeats 4000000 in
theorem ordEnd_all : all7 (fun x => ordEnd x 11 x) = true := by decide +kernel
def swR (x a : Nat) : Nat → Nat
  | 0 => 0
  | b + 1 => swR x a b + if imgN x a < imgN x b then 1 else 0
def swT (x : Nat) : Nat → Nat
  | 0 => 0
  | a + 1 => swT x a + swR x a a
set_option maxRecDepth 100000 in
set_option maxHeartbeats 4000000 in
theorem odd_all : all7 (fun x => swT x 7 % 2 == invs x 7 % 2) = true := by decide +kernel
end QFacts
