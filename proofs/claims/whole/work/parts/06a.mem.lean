/-- the memory ahead of the objects: what nobody writes -/
def im_I (L : Nat) (xs : Nat → Int32) : Nat → Nat → Int32 := fun a j =>
  if a = 1000 then ([-1, 0, 0, 2, 1, 3, 0, 6] : List Int32).getD j 0
  else if a = 1001 then ([1, 10, 11, 2, 20, 0, 0, 0, 0, 30, 0, 0, 0, 41, 40, 0, 0, 0, 0, 50, 0, 0, 60, 61, 70, 0, 0, 0, 81, 80, 0, 0] : List Int32).getD j 0
  else if a = 4000 then xs j
  else if a = 4001 then nI L
  else if 3000 ≤ a then (ej_stx.getD (a - 3000) []).getD j 0
  else 0
def im_m (L : Nat) (xs : Nat → Int32) : ej_M := (im_I L xs, fun _ _ => 0)
def im_tm (i : Nat) : Term := .string (ej_sts.getD i ("", 0, "", 0)).1 (ej_sts.getD i ("", 0, "", 0)).2.1

