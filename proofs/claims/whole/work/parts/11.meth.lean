theorem lv_args_eL (E : EV) : ∀ (as : List AV) (i : Nat), lv_args i (as.map (eV E)) = eL E (argL i as)
  | [], _ => rfl
  | a :: as, i => by
    have h := lv_args_eL E as
    show lv_args i (eV E a :: as.map (eV E)) = (i, eV E a) :: eL E (argL (if a.1 = 1 then i + 2 else i + 1) as)
    rw [← h]
    simp only [lv_args, eV_cat]
    by_cases ha : a.1 = 1 <;> simp [ha]
theorem lg_sl_len (E : EV) : ∀ (as : List AV), (lg_sl (as.map (eV E))).length = (as.map (fun a => if a.1 = 1 then 2 else 1)).sum
  | [] => rfl
  | a :: as => by
    have h := lg_sl_len E as
    have hc := eV_cat E a
    have e : lg_sl (List.map (eV E) (a :: as)) = (if (eV E a).category = 2 then [Slot.val (eV E a), Slot.second] else [Slot.val (eV E a)]) ++ lg_sl (as.map (eV E)) := by simp [lg_sl]
    rw [e, List.length_append, h, List.map_cons, List.sum_cons]
    by_cases ha : a.1 = 1
    · rw [if_pos ha] at hc
      rw [if_pos ha, if_pos hc]
      rfl
    · rw [if_neg ha] at hc
      rw [if_neg ha, if_neg (by omega)]
      rfl
theorem s_meth {E : EV} {M : MI} {d : Nat} {σ : St} {Q : Option AV → St → Prop} {as : List AV} {ls : List (Nat × AV)} (hy : plainName M.1.cls = true) (hn : (as.map (fun a => if a.1 = 1 then 2 else 1)).sum ≤ M.2.2.1) (hl : argL 0 as = ls) (k : WP E M d 0 ls [] σ Q) : WM E M d as σ Q :=
  s_method hy (by rw [lg_sl_len]; exact hn) (fun E => lv_args_eL E as 0) (by rw [hl]; exact k)
