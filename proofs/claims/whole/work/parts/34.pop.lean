/-! counting bits: the two ways agree below 4096 -/
def Ud : sU := (fun _ _ => 0, fun _ _ => 0, fun _ => 0)
def popc (k : Nat) : Bool := match f_214 (Int32.ofNat k) Ud with
  | some r => r == f_282 (Int32.ofNat k) Ud
  | none => false
theorem popc_all : (List.range 4096).all popc = true := by decide +kernel
