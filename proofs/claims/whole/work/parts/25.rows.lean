/-! ===== the rows of ORDER: codes and the least first ===== -/
def rsU (c : Nat) : Nat → Nat
  | 0 => c
  | j + 1 => if j = 0 then c else rsU c j / j
def dgU (n c k : Nat) : Nat := rsU c (n - k) % (n - k)
def bump (v x : Nat) : Nat := if x < v then x else x + 1
/-- row j when the places from n - m on have been looked at -/
def wU (n c : Nat) : Nat → Nat → Nat
  | 0, j => dgU n c j
  | m + 1, j => if n - (m + 1) < j then bump (dgU n c (n - (m + 1))) (wU n c m j) else wU n c m j
def rowU (n c : Nat) : List Nat := (List.range n).map (wU n c n)
def fcU : Nat → Nat
  | 0 => 1
  | n + 1 => (n + 1) * fcU n
def chkU : List (List Nat) → List (List Nat) → Bool
  | [], [] => true
  | a :: as, b :: bs => if a = b then chkU as bs else false
  | _, _ => false
theorem chkU_eq : ∀ a b, chkU a b = true → a = b
  | [], [], _ => rfl
  | a :: as, b :: bs, h => by
    have h : (if a = b then chkU as bs else false) = true := h
    split at h
    · rename_i e
      rw [e, chkU_eq as bs h]
    · exact absurd h (by decide)
  | [], _ :: _, h => absurd h (by simp [chkU])
  | _ :: _, [], h => absurd h (by simp [chkU])
theorem rows_n {n : Nat} (hn : n ≤ 7) : (List.range (fcU n)).map (rowU n) = pmS n (List.range n) := by
  rcases (show n = 0 ∨ n = 1 ∨ n = 2 ∨ n = 3 ∨ n = 4 ∨ n = 5 ∨ n = 6 ∨ n = 7 by omega) with e | e | e | e | e | e | e | e
  all_goals
    clear hn
    subst e
    exact chkU_eq _ _ (by decide +kernel)
