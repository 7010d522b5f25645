/-! orders by number: the next one; codes -/
def xn (d : Nat → Nat) (i j : Nat) : Nat → Nat := fun k => bif Nat.beq k j then d i else bif Nat.beq k i then d j else d k
def gpl (d : Nat → Nat) : Nat → Nat
  | 0 => 0
  | k + 1 => bif Nat.blt (d (k + 1)) (d k) then gpl d k else k + 1
def gol (d : Nat → Nat) (p : Nat) : Nat → Nat
  | 0 => 0
  | k + 1 => bif Nat.ble (k + 1) p then k + 1 else bif Nat.ble (d p) (d (k + 1)) then k + 1 else gol d p k
def grv : Nat → Nat → Nat → (Nat → Nat) → Nat → Nat
  | 0, _, _, d => d
  | f + 1, i, l, d => bif Nat.ble l i then d else grv f (i + 1) (l - 1) (xn d i l)
def lf (n code : Nat) : Nat → Nat
  | 0 => code
  | m + 1 => lf n code m / n
def dgN (n code : Nat) (i : Nat) : Nat := lf n code (n - 1 - i) % n
def msk (n : Nat) : Nat → Nat → Nat → Nat
  | 0, _, s => s
  | k + 1, l, s => msk n k (l / n) (s ||| 2 ^ (l % n))
def isP (n code : Nat) : Bool := Nat.beq (msk n n code 0) (2 ^ n - 1)
def allB (f : Nat → Bool) : Nat → Bool
  | 0 => true
  | n + 1 => f n && allB f n
def anyB (f : Nat → Bool) : Nat → Bool
  | 0 => false
  | n + 1 => f n || anyB f n
def pmB (n : Nat) (d : Nat → Nat) : Bool := allB (fun i => Nat.blt (d i) n && allB (fun j => Nat.beq i j || !(Nat.beq (d i) (d j))) n && anyB (fun j => Nat.beq (d j) i) n) n
def nxt (n : Nat) (d : Nat → Nat) : Nat → Nat := grv n (gpl d (n - 1)) (n - 1) (xn d (gpl d (n - 1) - 1) (gol d (gpl d (n - 1) - 1) (n - 1)))
def ckc (n : Nat) : List Nat → Bool
  | [] => true
  | c :: l => pmB n (dgN n c) && (match l with | [] => Nat.beq (gpl (dgN n c) (n - 1)) 0 | c2 :: _ => Nat.blt 0 (gpl (dgN n c) (n - 1)) && allB (fun i => Nat.beq (nxt n (dgN n c) i) (dgN n c2 i)) n) && ckc n l
def cds (n : Nat) : Nat → Nat → List Nat
  | 0, _ => []
  | d + 1, c => bif isP n c then c :: cds n d (c + 1) else cds n d (c + 1)
def cka (n : Nat) (l : List Nat) : Bool := ckc n l && Nat.ble l.length 720 && (match l with | [] => false | c :: _ => allB (fun i => Nat.beq (dgN n c i) i) n)
theorem cka0 : cka 0 (cds 0 (0 ^ 0) 0) = true := by decide +kernel
theorem cka1 : cka 1 (cds 1 (1 ^ 1) 0) = true := by decide +kernel
theorem cka2 : cka 2 (cds 2 (2 ^ 2) 0) = true := by decide +kernel
theorem cka3 : cka 3 (cds 3 (3 ^ 3) 0) = true := by decide +kernel
theorem cka4 : cka 4 (cds 4 (4 ^ 4) 0) = true := by decide +kernel
theorem cka5 : cka 5 (cds 5 (5 ^ 5) 0) = true := by decide +kernel
theorem cka6 : cka 6 (cds 6 (6 ^ 6) 0) = true := by decide +kernel
