/-- a sign of the table told -/
def sgT (l : Nat) (e : Int × Int × Int × Int) : List Int := wd 2 ++ ([32] ++ ([97 + (l : Int)] ++ (numT e.1 ++ (numT e.2.1 ++ ((if 0 < e.2.2.1 then [32] ++ (wd 3 ++ (numT e.2.2.1 ++ numT e.2.2.2)) else []) ++ [59])))))
/-- the last n letters -/
def tbT (T : Tb) : Nat → List Int
  | 0 => []
  | n + 1 => (if 0 < (T (25 - n)).1 then sgT (25 - n) (T (25 - n)) else []) ++ tbT T n
def lnsT (Ls : List Ln) : List Int := (Ls.map lnT).flatten
def allT (T : Tb) (M : Mo) : List Int := wd 0 ++ (numT M.1 ++ ([59] ++ (wd 1 ++ (numT M.2.1 ++ ([59] ++ (tbT T 26 ++ lnsT M.2.2))))))
theorem numT_len (v : Int) : (numT v).length ≤ 3 := by unfold numT; split <;> simp
theorem sgT_len (l : Nat) (e : Int × Int × Int × Int) : (sgT l e).length ≤ 24 := by
  have h1 := numT_len e.1
  have h2 := numT_len e.2.1
  have h3 := numT_len e.2.2.1
  have h4 := numT_len e.2.2.2
  have w2 : (wd 2).length = 4 := rfl
  have w3 : (wd 3).length = 4 := rfl
  unfold sgT
  split <;> simp only [List.length_append, List.length_cons, List.length_nil, w2, w3] <;> omega
theorem tbT_len (T : Tb) : ∀ n, (tbT T n).length ≤ 24 * n
  | 0 => by simp [tbT]
  | n + 1 => by
    have h1 := tbT_len T n
    have h2 := sgT_len (25 - n) (T (25 - n))
    simp only [tbT, List.length_append]
    split
    · omega
    · simp only [List.length_nil]; omega
theorem lnT_len {T : Tb} {L : Ln} (h : okLn T L) : (lnT L).length ≤ 314 := by
  have h1 := sqT_len L.2 0 (fun t ht => ⟨(h.2 t ht).1, (h.2 t ht).2.1⟩)
  have h2 := h.1.2
  have w4 : (wd 4).length = 4 := rfl
  have w5 : (wd 5).length = 4 := rfl
  unfold lnT
  split <;> simp only [List.length_append, List.length_cons, List.length_nil, w4, w5] <;> omega
theorem lnsT_len {T : Tb} : ∀ (Ls : List Ln), (∀ L ∈ Ls, okLn T L) → (lnsT Ls).length ≤ 314 * Ls.length
  | [], _ => by simp [lnsT]
  | L :: Ls, h => by
    have h1 := lnsT_len Ls (fun K hK => h K (List.mem_cons_of_mem _ hK))
    have h2 := lnT_len (h L List.mem_cons_self)
    have e : lnsT (L :: Ls) = lnT L ++ lnsT Ls := by simp [lnsT]
    rw [e, List.length_append, List.length_cons]
    omega
theorem allT_len {T : Tb} {M : Mo} (h : okMo T M) : (allT T M).length ≤ 2000 := by
  have h1 := numT_len M.1
  have h2 := numT_len M.2.1
  have h3 := tbT_len T 26
  have h4 := lnsT_len M.2.2 h.2.2.2
  have h5 := h.2.2.1
  have w0 : (wd 0).length = 4 := rfl
  have w1 : (wd 1).length = 3 := rfl
  unfold allT
  simp only [List.length_append, List.length_cons, List.length_nil, w0, w1]
  omega
