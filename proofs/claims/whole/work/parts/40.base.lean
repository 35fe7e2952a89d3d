/-! CONTRACTS BY HAND: small words for them -/
theorem wmi_p {E : EV} {M : MI} {d : Nat} {as : List AV} {σ : St} {r : Int} {Q : Int → St → Prop} (h : WMi E M d as σ (fun v σ' => v = r ∧ σ' = σ)) (k : Q r σ) : WMi E M d as σ Q := WMi.mono h (fun v σ' _ hq => by obtain ⟨rfl, rfl⟩ := hq; exact k)
theorem wml_p {E : EV} {M : MI} {d : Nat} {as : List AV} {σ : St} {r : Int} {Q : Int → St → Prop} (h : WMl E M d as σ (fun v σ' => v = r ∧ σ' = σ)) (k : Q r σ) : WMl E M d as σ Q := WMl.mono h (fun v σ' _ hq => by obtain ⟨rfl, rfl⟩ := hq; exact k)
theorem wmr_p {E : EV} {M : MI} {d : Nat} {as : List AV} {σ : St} {r : Int} {Q : Int → St → Prop} (h : WMr E M d as σ (fun v σ' => v = r ∧ σ' = σ)) (k : Q r σ) : WMr E M d as σ Q := WMr.mono h (fun v σ' _ hq => by obtain ⟨rfl, rfl⟩ := hq; exact k)
theorem wmv_s {E : EV} {M : MI} {d : Nat} {as : List AV} {σ τ : St} {Q : St → Prop} (h : WMv E M d as σ (fun σ' => σ' = τ)) (k : Q τ) : WMv E M d as σ Q := WMv.mono h (fun σ' _ hq => by subst hq; exact k)
def b2i (p : Prop) [Decidable p] : Int := if p then 1 else 0
theorem b2i_r (p : Prop) [Decidable p] : rI (b2i p) := by unfold b2i; split <;> decide
theorem b2i_01 (p : Prop) [Decidable p] : b2i p = 0 ∨ b2i p = 1 := by unfold b2i; split <;> simp
theorem b2i_0 {p : Prop} [Decidable p] : b2i p = 0 ↔ ¬ p := by unfold b2i; split <;> simp_all
theorem b2i_n0 {p : Prop} [Decidable p] : ¬ b2i p = 0 ↔ p := by unfold b2i; split <;> simp_all
theorem b2i_t {p : Prop} [Decidable p] (h : p) : b2i p = 1 := if_pos h
theorem b2i_f {p : Prop} [Decidable p] (h : ¬ p) : b2i p = 0 := if_neg h
/-- a place that a list of places (a, k), or whole rows (a, -1), does not name -/
def frO (X : List (Int × Int)) (a k : Int) : Bool := X.all (fun p => a != p.1 || (p.2 != -1 && k != p.2))
/-- nothing is made, and nothing changes but what X names -/
def Fr (X : List (Int × Int)) (σ τ : St) : Prop := τ.2 = σ.2 ∧ ∀ a k, frO X a k = true → τ.1 a k = σ.1 a k
theorem Fr.refl (X : List (Int × Int)) (σ : St) : Fr X σ σ := ⟨rfl, fun _ _ _ => rfl⟩
theorem frO_app {X Y : List (Int × Int)} {a k : Int} : frO (X ++ Y) a k = (frO X a k && frO Y a k) := by simp [frO]
theorem Fr.trans {X Y : List (Int × Int)} {σ τ υ : St} (h : Fr X σ τ) (h2 : Fr Y τ υ) : Fr (X ++ Y) σ υ := ⟨h2.1.trans h.1, fun a k hk => by rw [frO_app, Bool.and_eq_true] at hk; exact (h2.2 a k hk.2).trans (h.2 a k hk.1)⟩
theorem Fr.tr {X : List (Int × Int)} {σ τ υ : St} (h : Fr X σ τ) (h2 : Fr X τ υ) : Fr X σ υ := ⟨h2.1.trans h.1, fun a k hk => (h2.2 a k hk).trans (h.2 a k hk)⟩
/-- X's places are among Y's -/
def frL (X Y : List (Int × Int)) : Bool := X.all (fun p => Y.any (fun q => q.1 == p.1 && (q.2 == -1 || q.2 == p.2)))
theorem frO_mono {X Y : List (Int × Int)} (h : frL X Y = true) {a k : Int} (hk : frO Y a k = true) : frO X a k = true := by
  unfold frO at *
  rw [List.all_eq_true] at *
  unfold frL at h
  rw [List.all_eq_true] at h
  intro p hp
  have h1 := h p hp
  rw [List.any_eq_true] at h1
  obtain ⟨q, hq, h2⟩ := h1
  have h3 := hk q hq
  simp only [Bool.and_eq_true, Bool.or_eq_true, beq_iff_eq, bne_iff_ne] at *
  rcases h2 with ⟨e1, e2⟩
  rw [e1] at h3
  rcases h3 with h3 | ⟨h3, h4⟩
  · exact Or.inl h3
  · rcases e2 with e2 | e2
    · exact absurd e2 h3
    · rw [e2] at h3 h4
      exact Or.inr ⟨h3, h4⟩
theorem Fr.mono {X Y : List (Int × Int)} {σ τ : St} (h : Fr X σ τ) (hXY : frL X Y = true) : Fr Y σ τ := ⟨h.1, fun a k hk => h.2 a k (frO_mono hXY hk)⟩
theorem Fr.fix {X : List (Int × Int)} {σ τ : St} (h : Fr X σ τ) (hF : Fix σ) (hX : FF.all (fun q => frO X q.1 q.2.1) = true) : Fix τ := hF.of (by rw [h.1]; exact List.prefix_refl _) (fun q hq => h.2 _ _ (List.all_eq_true.mp hX q hq))
theorem Fr.wr {X : List (Int × Int)} {σ : St} {a k v : Int} (h : ∀ b j, frO X b j = true → ¬ (b = a ∧ j = k)) : Fr X σ (wr σ a k v) := ⟨rfl, fun b j hb => if_neg (h b j hb)⟩
theorem frO_a {X : List (Int × Int)} {a : Int} (ha : X.any (fun p => p.1 == a && p.2 == -1) = true) (k : Int) : ∀ b j, frO X b j = true → ¬ (b = a ∧ j = k) := by
  rintro b j hb ⟨rfl, rfl⟩
  rw [List.any_eq_true] at ha
  obtain ⟨p, hp, h1⟩ := ha
  unfold frO at hb
  rw [List.all_eq_true] at hb
  have h2 := hb p hp
  simp only [Bool.and_eq_true, Bool.or_eq_true, beq_iff_eq, bne_iff_ne] at *
  rcases h2 with h2 | ⟨h2, -⟩
  · exact h2 h1.1.symm
  · exact h2 h1.2
theorem frO_k {X : List (Int × Int)} {a k : Int} (ha : X.any (fun p => p.1 == a && p.2 == k) = true) : ∀ b j, frO X b j = true → ¬ (b = a ∧ j = k) := by
  rintro b j hb ⟨rfl, rfl⟩
  rw [List.any_eq_true] at ha
  obtain ⟨p, hp, h1⟩ := ha
  unfold frO at hb
  rw [List.all_eq_true] at hb
  have h2 := hb p hp
  simp only [Bool.and_eq_true, Bool.or_eq_true, beq_iff_eq, bne_iff_ne] at *
  rcases h2 with h2 | ⟨-, h2⟩
  · exact h2 h1.1.symm
  · exact h2 h1.2.symm
theorem wr_same (σ : St) (a k v : Int) : (wr σ a k v).1 a k = v := by simp [wr]
theorem wr_at (σ : St) (a k v b j : Int) : (wr σ a k v).1 b j = if b = a ∧ j = k then v else σ.1 b j := rfl
theorem wr_na (σ : St) {a k v b j : Int} (h : b ≠ a) : (wr σ a k v).1 b j = σ.1 b j := if_neg (fun q => h q.1)
theorem wr_nk (σ : St) {a k v b j : Int} (h : j ≠ k) : (wr σ a k v).1 b j = σ.1 b j := if_neg (fun q => h q.2)
theorem wr_2 (σ : St) (a k v : Int) : (wr σ a k v).2 = σ.2 := rfl
theorem s_m {E : EV} {M : MI} {d : Nat} {σ : St} {Q : Option AV → St → Prop} {as : List AV} {ls : List (Nat × AV)} (k : WP E M d 0 ls [] σ Q) (hl : argL 0 as = ls := by rfl) (hy : plainName M.1.cls = true := by decide) (hn : Nat.ble (as.map (fun a => if a.1 = 1 then 2 else 1)).sum M.2.2.1 = true := by rfl) : WM E M d as σ Q := s_meth hy (Nat.le_of_ble_eq_true hn) hl k
theorem ri_p {σ : St} {r v : Int} (h : v = r) : ∃ w, some (aI v) = some (aI w) ∧ σ.2 <+: σ.2 ∧ w = r ∧ σ = σ := ⟨v, rfl, List.prefix_refl _, h, rfl⟩
theorem rl_p {σ : St} {r v : Int} (h : v = r) : ∃ w, some (aL v) = some (aL w) ∧ σ.2 <+: σ.2 ∧ w = r ∧ σ = σ := ⟨v, rfl, List.prefix_refl _, h, rfl⟩
theorem rr_p {σ : St} {r v : Int} (h : v = r) : ∃ w, some (aP v) = some (aP w) ∧ σ.2 <+: σ.2 ∧ w = r ∧ σ = σ := ⟨v, rfl, List.prefix_refl _, h, rfl⟩
theorem ri_q {σ τ : St} {v : Int} {Q : Int → St → Prop} (hp : σ.2 <+: τ.2) (h : Q v τ) : ∃ w, some (aI v) = some (aI w) ∧ σ.2 <+: τ.2 ∧ Q w τ := ⟨v, rfl, hp, h⟩
theorem rv_q {σ τ : St} {Q : St → Prop} (hp : σ.2 <+: τ.2) (h : Q τ) : (none : Option AV) = none ∧ σ.2 <+: τ.2 ∧ Q τ := ⟨rfl, hp, h⟩
theorem pre_eq {σ τ : St} (h : τ.2 = σ.2) : σ.2 <+: τ.2 := by rw [h]; exact List.prefix_refl _
