/-! ARRANGEMENTS: the class's forms, and which is the best -/
def pr (a b : Tr) : List Tr := (if isM a then [] else [.mul a b]) ++ (if isA a then [] else [.add a b])
def prL (A B : List Tr) : List Tr := A.flatMap (fun a => B.flatMap (pr a))
def gSf : Nat → Nat → Nat → List Tr
  | 0, _, _ => []
  | k + 1, f, n => if n ≤ 1 then [.var f] else (List.range (n - 1)).flatMap (fun j => prL (gSf k f (j + 1)) (gSf k (f + (j + 1)) (n - (j + 1))))
def gS (f n : Nat) : List Tr := gSf 6 f n
theorem flat_congr {α β : Type} {L : List α} {f g : α → List β} (h : ∀ x ∈ L, f x = g x) : L.flatMap f = L.flatMap g := by
  rw [List.flatMap_def, List.flatMap_def, List.map_congr_left h]
theorem gSf_fuel : ∀ (k k' f n : Nat), 1 ≤ n → n ≤ k → n ≤ k' → gSf k f n = gSf k' f n
  | 0, _, _, _, h1, h2, _ => by omega
  | _ + 1, 0, _, _, h1, _, h3 => by omega
  | k + 1, k' + 1, f, n, h1, h2, h3 => by
    simp only [gSf]
    by_cases c : n ≤ 1
    · rw [if_pos c, if_pos c]
    · rw [if_neg c, if_neg c]
      refine flat_congr (fun j hj => ?_)
      have := List.mem_range.mp hj
      rw [gSf_fuel k k' f (j + 1) (by omega) (by omega) (by omega), gSf_fuel k k' (f + (j + 1)) (n - (j + 1)) (by omega) (by omega) (by omega)]
theorem gS_1 (f : Nat) : gS f 1 = [.var f] := rfl
theorem gS_n {f n : Nat} (h1 : 2 ≤ n) (h2 : n ≤ 6) : gS f n = (List.range (n - 1)).flatMap (fun j => prL (gS f (j + 1)) (gS (f + (j + 1)) (n - (j + 1)))) := by
  unfold gS
  rw [gSf, if_neg (by omega)]
  refine flat_congr (fun j hj => ?_)
  have := List.mem_range.mp hj
  rw [gSf_fuel 5 6 f (j + 1) (by omega) (by omega) (by omega), gSf_fuel 5 6 (f + (j + 1)) (n - (j + 1)) (by omega) (by omega) (by omega)]
theorem mem_pr {a b s : Tr} : s ∈ pr a b ↔ (isM a = false ∧ s = .mul a b) ∨ (isA a = false ∧ s = .add a b) := by
  unfold pr
  cases isM a <;> cases isA a <;> simp
theorem mem_prL {A B : List Tr} {s : Tr} : s ∈ prL A B ↔ ∃ a ∈ A, ∃ b ∈ B, s ∈ pr a b := by
  unfold prL
  simp only [List.mem_flatMap]
theorem gS_ok : ∀ (k f n : Nat), 1 ≤ n → n ≤ k → f + n ≤ 26 → ∀ s ∈ gSf k f n, okP s = true ∧ lv s = List.range' f n
  | 0, _, _, h1, h2, _ => by omega
  | k + 1, f, n, h1, h2, h3 => by
    intro s hs
    rw [gSf] at hs
    by_cases c : n ≤ 1
    · rw [if_pos c] at hs
      obtain rfl : n = 1 := by omega
      rw [List.mem_singleton] at hs
      subst hs
      exact ⟨by show decide (f < 26) = true; rw [decide_eq_true_iff]; omega, rfl⟩
    · rw [if_neg c, List.mem_flatMap] at hs
      obtain ⟨j, hj, hs⟩ := hs
      have := List.mem_range.mp hj
      obtain ⟨a, ha, b, hb, hs⟩ := mem_prL.mp hs
      obtain ⟨a1, a2⟩ := gS_ok k f (j + 1) (by omega) (by omega) (by omega) a ha
      obtain ⟨b1, b2⟩ := gS_ok k (f + (j + 1)) (n - (j + 1)) (by omega) (by omega) (by omega) b hb
      have hl : lv a ++ lv b = List.range' f n := by
        rw [a2, b2, List.range'_append_1, show j + 1 + (n - (j + 1)) = n by omega]
      rcases mem_pr.mp hs with ⟨h, rfl⟩ | ⟨h, rfl⟩
      · exact ⟨by simp [okP, a1, b1, h], hl⟩
      · exact ⟨by simp [okP, a1, b1, h], hl⟩
theorem lv_pos {s : Tr} (h : okP s = true) : 1 ≤ (lv s).length := by have := dg_len h 0; omega
theorem gS_full : ∀ (k f n : Nat) (s : Tr), n ≤ k → okP s = true → lv s = List.range' f n → s ∈ gSf k f n
  | 0, f, n, s, h1, h2, h3 => by have := lv_pos h2; rw [h3, List.length_range'] at this; omega
  | k + 1, f, n, s, h1, h2, h3 => by
    have hn : (lv s).length = n := by rw [h3, List.length_range']
    have two : ∀ a b : Tr, okP a = true → okP b = true → lv a ++ lv b = List.range' f n → (∀ x, x ∈ pr a b → x ∈ gSf (k + 1) f n) := by
      intro a b ha hb hab x hx
      have la := lv_pos ha
      have lb := lv_pos hb
      have hln : (lv a).length + (lv b).length = n := by rw [← List.length_append, hab, List.length_range']
      have e := List.range'_append_1 (s := f) (m := (lv a).length) (n := (lv b).length)
      rw [hln, ← hab] at e
      obtain ⟨e1, e2⟩ := List.append_inj e (by rw [List.length_range'])
      have ia := gS_full k f (lv a).length a (by omega) ha e1.symm
      have ib := gS_full k (f + (lv a).length) (lv b).length b (by omega) hb e2.symm
      rw [gSf, if_neg (by omega), List.mem_flatMap]
      refine ⟨(lv a).length - 1, List.mem_range.mpr (by omega), ?_⟩
      rw [show (lv a).length - 1 + 1 = (lv a).length by omega, show n - (lv a).length = (lv b).length by omega]
      exact mem_prL.mpr ⟨a, ia, b, ib, hx⟩
    cases s with
    | var l =>
      have h5 : n = 1 := by rw [← hn]; rfl
      subst h5
      have h6 : [vN l] = [f] := h3
      have h7 : l = f := by simpa [vN] using h6
      subst h7
      simp [gSf]
    | mul a b => obtain ⟨ha, hb, hm⟩ := okP_mul h2; exact two a b ha hb h3 _ (mem_pr.mpr (Or.inl ⟨hm, rfl⟩))
    | add a b => obtain ⟨ha, hb, hm⟩ := okP_add h2; exact two a b ha hb h3 _ (mem_pr.mpr (Or.inr ⟨hm, rfl⟩))
    | _ => simp [okP] at h2
def eqT : Tr → Tr → Bool
  | .var l, .var k => Nat.beq (vN l) (vN k)
  | .mul a b, .mul c d => eqT a c && eqT b d
  | .add a b, .add c d => eqT a c && eqT b d
  | _, _ => false
theorem eqT_eq : ∀ (s t : Tr), eqT s t = true → s = t := by
  intro s
  induction s with
  | var l => intro t h; cases t <;> simp_all [eqT, vN]
  | mul a b iha ihb => intro t h; cases t <;> simp only [eqT, Bool.and_eq_true, Bool.false_eq_true] at h; rw [iha _ h.1, ihb _ h.2]
  | add a b iha ihb => intro t h; cases t <;> simp only [eqT, Bool.and_eq_true, Bool.false_eq_true] at h; rw [iha _ h.1, ihb _ h.2]
  | _ => intro t h; simp [eqT] at h
def ndB : List Int → Bool
  | [] => true
  | x :: L => L.all (fun y => !decide (y = x)) && ndB L
theorem ndB_inj {f : Tr → Int} : ∀ (L : List Tr), ndB (L.map f) = true → ∀ s ∈ L, ∀ t ∈ L, f s = f t → s = t
  | [], _, s, hs, _, _, _ => absurd hs (by simp)
  | x :: L, h, s, hs, t, ht, e => by
    simp only [List.map_cons, ndB, Bool.and_eq_true] at h
    have h1 := List.all_eq_true.mp h.1
    rcases List.mem_cons.mp hs with hs1 | hs1
    · rcases List.mem_cons.mp ht with ht1 | ht1
      · rw [hs1, ht1]
      · have := h1 (f t) (List.mem_map_of_mem ht1); rw [← e, hs1] at this; simp at this
    · rcases List.mem_cons.mp ht with ht1 | ht1
      · have := h1 (f s) (List.mem_map_of_mem hs1); rw [e, ht1] at this; simp at this
      · exact ndB_inj L h.2 s hs1 t ht1 e
theorem ks_1 : (gS 0 1).map (fun s => nm (dg 0 s)) = [5] := by decide +kernel
theorem kn_1 : ndB ((gS 0 1).map (fun s => nm (dg 0 s))) = true := by rw [ks_1]; decide +kernel
theorem gc_1 : (gS 0 1).all (fun s => (cnd 1).any (eqT s)) = true := by decide +kernel
theorem ks_2 : (gS 0 2).map (fun s => nm (dg 0 s)) = [349, 357] := by decide +kernel
theorem kn_2 : ndB ((gS 0 2).map (fun s => nm (dg 0 s))) = true := by rw [ks_2]; decide +kernel
theorem gc_2 : (gS 0 2).all (fun s => (cnd 2).any (eqT s)) = true := by decide +kernel
theorem ks_3 : (gS 0 3).map (fun s => nm (dg 0 s)) = [22365, 22877, 1415978, 22885, 22373, 445085] := by decide +kernel
theorem kn_3 : ndB ((gS 0 3).map (fun s => nm (dg 0 s))) = true := by rw [ks_3]; decide +kernel
theorem gc_3 : (gS 0 3).all (fun s => (cnd 3).any (eqT s)) = true := by decide +kernel
theorem ks_4 : (gS 0 4).map (fun s => nm (dg 0 s)) = [1431389, 1464157, 90622698, 1464669, 91593514, 93690666, 90622762, 1464677, 90618666, 1464165, 90622621, 92719773, 1431901, 1431909, 28485469, 1823054634, 1431397, 28490397, 90622629, 28494493, 28232349, 28485477] := by decide +kernel
theorem kn_4 : ndB ((gS 0 4).map (fun s => nm (dg 0 s))) = true := by rw [ks_4]; decide +kernel
theorem gc_4 : (gS 0 4).all (fun s => (cnd 4).any (eqT s)) = true := by decide +kernel
theorem ks_5 : (gS 0 5).map (fun s => nm (dg 0 s)) = [91608925, 93706077, 5799852778, 93738845, 5861985002, 5996202730, 5799856874, 93739357, 5862955818, 5997173546, 371190454610, 5999270698, 5861985066, 5996202794, 5799856938, 93739365, 5861980970, 5996198698, 5799852842, 93738853, 5861984925, 5996202653, 371182687466, 5998299805, 5799594730, 93706589, 5799594794, 93706597, 5799847773, 5934065501, 371190242090, 379780176682, 5799590698, 93706085, 5799852701, 5934070429, 371165910314, 5996202661, 5799856797, 5934074525, 5799594653, 5933812381, 370668813098, 5934065509, 91641693, 91642205, 5865052970, 91642213, 91641701, 5864082077, 1823070045, 116675496682, 116676467498, 116675496746, 116675492650, 116675496605, 91609437, 91609445, 1823385437, 116696652586, 5799848285, 5799848293, 1823647581, 116713429802, 1806870365, 115639687978, 1823070557, 1823070565, 91608933, 1823390365, 5799852709, 1823652509, 5861984933, 116689097885, 5799856805, 1823656605, 5799594661, 1823394461, 5799847781, 116192000669, 1806875293, 1806879389, 1823070053, 116675496613, 1806617245, 1823385445, 115118262941, 1823647589, 1806870373, 83304041117] := by decide +kernel
theorem kn_5 : ndB ((gS 0 5).map (fun s => nm (dg 0 s))) = true := by rw [ks_5]; decide +kernel
theorem gc_5 : (gS 0 5).all (fun s => (cnd 5).any (eqT s)) = true := by decide +kernel
theorem ks_6 : (gS 0 6).map (fun s => nm (dg 0 s)) = [5862971229, 5997188957, 371190577898, 5999286109, 375167040234, 383756974826, 371190840042, 5999318877, 375229172458, 383819107050, 23756189095762, 383953324778, 375167044330, 383756978922, 371190844138, 5999319389, 375230143274, 383820077866, 23756196862290, 383954295594, 24010690451794, 24560446265682, 23756213639506, 383956392746, 375229172522, 383819107114, 23756189096274, 383953324842, 375167044394, 383756978986, 371190844202, 5999319397, 375229168426, 383819103018, 23756189063506, 383953320746, 375167040298, 383756974890, 371190840106, 5999318885, 375229172381, 383819106973, 23756189095146, 383953324701, 24010682684650, 24560438498538, 23756205872362, 383955421853, 375166782186, 383756716778, 371190581994, 5999286621, 375166782250, 383756716842, 371190582058, 5999286629, 375167035229, 383756969821, 23755691997930, 383891187549, 24010690239274, 24560446053162, 1520364287744338, 24569035987754, 375166778154, 383756712746, 371190577962, 5999286117, 375167040157, 383756974749, 23755692037354, 383891192477, 24010665907498, 24560421721386, 23756189095210, 383953324709, 375167044253, 383756978845, 23755692070122, 383891196573, 375166782109, 383756716701, 23755689972970, 383890934429, 24010168810282, 24559924624170, 23755691997994, 383891187557, 371174062826, 5997221725, 371174066922, 5997222237, 23755139897682, 383822175018, 371174066986, 5997222245, 371174062890, 5997221733, 23755132130538, 383821204125, 371190257501, 379780192093, 23756175493866, 24305931307754, 23756176464682, 24305932278570, 23756175493930, 24305931307818, 23756175489834, 24305931303722, 23756175493789, 24305931307677, 371173804778, 5997189469, 371173804842, 5997189477, 371190572893, 379780507485, 23756196649770, 24305952463658, 23754618260202, 383756970333, 23754618260266, 383756970341, 371190835037, 379780769629, 23756213426986, 24305969240874, 371174057821, 379763992413, 23755139685162, 24304895499050, 23722804038378, 379780192605, 23722804038442, 379780192613, 371173800746, 5997188965, 371190577821, 379780512413, 23754618295594, 383756974757, 371190839965, 379780774557, 23755115353386, 383819106981, 23756189095069, 24305944908957, 23754618328362, 383756978853, 371190844061, 379780778653, 23754616231210, 383756716709, 371190581917, 379780516509, 23754618256170, 383756969829, 23755691997853, 24305447811741, 371174062749, 379763997341, 371174066845, 379764001437, 23722804034346, 379780192101, 1518259450303786, 24305931307685, 371173804701, 379763739293, 23722806557482, 379780507493, 23754618260125, 24304374074013, 23722808654634, 379780769637, 23722674436906, 379763992421, 23722804038301, 24272559852189, 5865068381, 5865101149, 375363390186, 5865101661, 375364361002, 375366458154, 375363390250, 5865101669, 375363386154, 5865101157, 375363390109, 375365487261, 5865068893, 5865068901, 375301252957, 24019280173866, 5865068389, 375301257885, 375363390117, 375301261981, 375300999837, 375301252965, 116676482909, 7467231787754, 7467293919978, 7467231791850, 7467294890794, 477902834293074, 7467293920042, 7467231791914, 7467293915946, 7467231787818, 7467293919901, 477902826525930, 7467231529706, 7467231529770, 7467231782749, 477902834080554, 7467231525674, 7467231787677, 477902809748778, 7467231791773, 7467231529629, 477902312651562, 5863003997, 5863004509, 375232240426, 5863004517, 5863004005, 375231269533, 116696667997, 7468585765610, 7468586736426, 7468585765674, 7468585761578, 7468585765533, 371190290269, 371190290781, 23756178561834, 371190290789, 371190290277, 23756177590941, 116713445213, 7469659507434, 7469660478250, 7469659507498, 7469659503402, 7469659507357, 115639703389, 7400940030698, 7400941001514, 7400940030762, 7400940026666, 7400940030621, 116676515677, 116676516189, 7467296987946, 116676516197, 116676515685, 7467296017053, 5862971741, 5862971749, 116696983389, 7468606921514, 371190573405, 371190573413, 116713760605, 7469680663338, 375167035741, 375167035749, 7468102264669, 477958544923434, 371190835549, 371190835557, 116714022749, 7469697440554, 371174058333, 371174058341, 116697245533, 7468623698730, 371190258013, 371190258021, 7436288042845, 475922434726698, 115640018781, 7400961186602, 115640280925, 7400977963818, 116676483421, 116676483429, 7467231783261, 7467231783269, 115623503709, 7399904221994, 116696668509, 116696668517, 7367568828253, 471524404992810, 116713445725, 116713445733, 115639703901, 115639703909, 5331458631517, 341213352401706, 5862971237, 116696988317, 371190577829, 116713765533, 375167040165, 7468102309021, 371190839973, 116714027677, 375229172389, 7468599366813, 23756189095077, 7469673108637, 375167044261, 7468102341789, 371190844069, 116714031773, 375166782117, 7468100244637, 371190581925, 116713769629, 375167035237, 7468102269597, 23755691997861, 7469176011421, 371174062757, 116697250461, 371174066853, 116697254557, 371190257509, 7436288047773, 23756175493797, 475922427171997, 371173804709, 116696992413, 371190572901, 7436290570909, 23754618260133, 7468102273693, 371190835045, 7436292668061, 371174057829, 7436158450333, 23722804038309, 7436288051869, 115640023709, 115640285853, 7400953631901, 115640289949, 115640027805, 7400456534685, 116676482917, 7467231787685, 7467293919909, 7467231791781, 7467231529637, 7467231782757, 115623508637, 115623512733, 116696668005, 7468585765541, 7367568833181, 7367568837277, 116713445221, 7469659507365, 115639703397, 7400940030629, 5331458636445, 5331458640541, 115623250589, 116696983397, 7367571098269, 116713760613, 7399382796957, 7468102264677, 7367573195421, 116714022757, 7367438977693, 116697245541, 7367568575133, 7436288042853, 115640018789, 115640280933, 5331458378397, 341212830976669, 115623503717, 5331619859101, 7367568828261, 5331754076829, 5323164142237, 5331458631525] := by decide +kernel
theorem kn_6 : ndB ((gS 0 6).map (fun s => nm (dg 0 s))) = true := by rw [ks_6]; decide +kernel
theorem gc_6 : (gS 0 6).all (fun s => (cnd 6).any (eqT s)) = true := by decide +kernel
theorem any_mem {L : List Tr} {s : Tr} (h : L.any (eqT s) = true) : s ∈ L := by
  obtain ⟨x, hx, e⟩ := List.any_eq_true.mp h
  rw [eqT_eq _ _ e]; exact hx
theorem gS_cnd {n : Nat} (h1 : 1 ≤ n) (h2 : n ≤ 6) {s : Tr} (hs : s ∈ gS 0 n) : s ∈ cnd n := by
  match n, h1, h2 with
  | 1, _, _ => exact any_mem (List.all_eq_true.mp gc_1 s hs)
  | 2, _, _ => exact any_mem (List.all_eq_true.mp gc_2 s hs)
  | 3, _, _ => exact any_mem (List.all_eq_true.mp gc_3 s hs)
  | 4, _, _ => exact any_mem (List.all_eq_true.mp gc_4 s hs)
  | 5, _, _ => exact any_mem (List.all_eq_true.mp gc_5 s hs)
  | 6, _, _ => exact any_mem (List.all_eq_true.mp gc_6 s hs)
theorem gS_inj {n : Nat} (h1 : 1 ≤ n) (h2 : n ≤ 6) {s t : Tr} (hs : s ∈ gS 0 n) (ht : t ∈ gS 0 n) (e : nm (dg 0 s) = nm (dg 0 t)) : s = t := by
  match n, h1, h2 with
  | 1, _, _ => exact ndB_inj _ kn_1 s hs t ht e
  | 2, _, _ => exact ndB_inj _ kn_2 s hs t ht e
  | 3, _, _ => exact ndB_inj _ kn_3 s hs t ht e
  | 4, _, _ => exact ndB_inj _ kn_4 s hs t ht e
  | 5, _, _ => exact ndB_inj _ kn_5 s hs t ht e
  | 6, _, _ => exact ndB_inj _ kn_6 s hs t ht e
theorem cnd_gS {n : Nat} (h1 : 1 ≤ n) (h2 : n ≤ 6) {s : Tr} (hs : s ∈ cnd n) : s ∈ gS 0 n := by
  unfold cnd at hs
  obtain ⟨u, hu, hs⟩ := List.mem_flatMap.mp hs
  obtain ⟨k1, -, k2, -⟩ := fF_ok h1 h2 hu
  rw [List.range_eq_range'] at k2
  have k3 := okP_tn k1
  rcases List.mem_cons.mp hs with rfl | hs
  · exact gS_full 6 0 n _ h2 k1 k2
  · rw [List.mem_singleton] at hs
    subst hs
    exact gS_full 6 0 n _ h2 k3.1 (k3.2.trans k2)
/-- what the fold leaves -/
theorem bstF_min {T : Tb} {M : Mo} {xs : List Tr} (hS : ∀ u ∈ xs, isS u = true ∧ ok u) : ∀ (L : List Tr) (c : Tr), (∀ s ∈ c :: L, okP s = true ∧ lv s = List.range xs.length) → ∃ m ∈ c :: L, bstF T M (some (sbs xs c)) (L.map (sbs xs)) = some (sbs xs m) ∧ ∀ s ∈ c :: L, ¬ bet T M xs s m
  | [], c, h => ⟨c, List.mem_cons_self, rfl, fun s hs => by rw [List.mem_singleton] at hs; subst hs; unfold bet; omega⟩
  | x :: L, c, h => by
    have hc := h c List.mem_cons_self
    have hx := h x (List.mem_cons_of_mem _ List.mem_cons_self)
    have hb := btr_bet (T := T) (M := M) hS hx.1 hc.1 (hx.2.trans hc.2.symm) (by rw [hx.2]; exact fun i hi => List.mem_range.mp hi)
    have e : bstF T M (some (sbs xs c)) ((x :: L).map (sbs xs)) = bstF T M (some (sbs xs (if btr T M (sbs xs x) (sbs xs c) then x else c))) (L.map (sbs xs)) := by
      simp only [List.map_cons, bstF, List.foldl_cons, nxtB]
      split <;> rfl
    rw [e]
    by_cases q : btr T M (sbs xs x) (sbs xs c) = true
    · rw [if_pos q]
      obtain ⟨m, hm, e1, e2⟩ := bstF_min hS L x (fun s hs => h s (List.mem_cons_of_mem _ hs))
      refine ⟨m, List.mem_cons_of_mem _ hm, e1, fun s hs => ?_⟩
      rcases List.mem_cons.mp hs with rfl | hs
      · have q1 := e2 x List.mem_cons_self
        have q2 := hb.mp q
        unfold bet at q1 q2 ⊢
        omega
      · exact e2 s hs
    · rw [if_neg q]
      obtain ⟨m, hm, e1, e2⟩ := bstF_min hS L c (fun s hs => h s (by rcases List.mem_cons.mp hs with rfl | hs; exact List.mem_cons_self; exact List.mem_cons_of_mem _ (List.mem_cons_of_mem _ hs)))
      refine ⟨m, by rcases List.mem_cons.mp hm with rfl | hm; exact List.mem_cons_self; exact List.mem_cons_of_mem _ (List.mem_cons_of_mem _ hm), e1, fun s hs => ?_⟩
      rcases List.mem_cons.mp hs with rfl | hs
      · exact e2 s List.mem_cons_self
      · rcases List.mem_cons.mp hs with rfl | hs
        · have q1 := e2 c List.mem_cons_self
          have q2 : ¬ bet T M xs s c := fun z => q (hb.mpr z)
          unfold bet at q1 q2 ⊢
          omega
        · exact e2 s (List.mem_cons_of_mem _ hs)
theorem bstO_gS {T : Tb} {M : Mo} {t m : Tr} (ht : ok t) (h1 : 1 ≤ so t) (h2 : so t ≤ 6) (hm : m ∈ gS 0 (so t)) (hmin : ∀ s ∈ gS 0 (so t), ¬ bet T M (oS t) s m) : bstO T M t = some (sbs (oS t) m) := by
  have ho := oS_ok (T := T) ht
  have hS : ∀ u ∈ oS t, isS u = true ∧ ok u := fun u hu => ⟨(ho u hu).1, (ho u hu).2.1⟩
  have hall : ∀ s ∈ cnd (so t), okP s = true ∧ lv s = List.range (oS t).length := by
    intro s hs
    have := gS_ok 6 0 (so t) h1 h2 (by omega) s (cnd_gS h1 h2 hs)
    rw [oS_len, List.range_eq_range']
    exact this
  unfold bstO
  have hmc := gS_cnd h1 h2 hm
  cases hc : cnd (so t) with
  | nil => rw [hc] at hmc; simp at hmc
  | cons c L =>
    rw [hc] at hall hmc
    obtain ⟨m', k1, k2, k3⟩ := bstF_min (T := T) (M := M) hS L c hall
    have e : bstF T M none ((c :: L).map (sbs (oS t))) = bstF T M (some (sbs (oS t) c)) (L.map (sbs (oS t))) := rfl
    rw [e, k2]
    have q1 := k3 m hmc
    have q3 : m' ∈ gS 0 (so t) := cnd_gS h1 h2 (by rw [hc]; exact k1)
    have q2 := hmin m' q3
    unfold bet at q1 q2
    rw [gS_inj h1 h2 q3 hm (by omega)]
theorem p8_two (m : Nat) : p8 m = ((2 ^ (3 * m) : Nat) : Int) := by
  induction m with
  | zero => rfl
  | succ m ih => rw [p8, ih, Nat.mul_succ, Nat.pow_add]; omega
theorem shl_amt : ∀ k : Fin 21, (((Int32.ofInt (3 * (k.val : Int))).toInt64 &&& 63).toBitVec.smod 64).toNat = 3 * k.val := by decide +kernel
theorem lshl_p8 {x : Int} {m : Nat} (hx : 0 ≤ x) (hm : m ≤ 20) (hb : x * p8 m < 9223372036854775808) : lshl x (3 * (m : Int)) = x * p8 m := by
  have ha := shl_amt ⟨m, by omega⟩
  simp only at ha
  have hp := p8_pos m
  have hx2 : x * 1 ≤ x * p8 m := Int.mul_le_mul_of_nonneg_left hp hx
  unfold lshl
  show (Int64.ofInt x <<< ((Int32.ofInt (3 * (m : Int))).toInt64 &&& 63)).toBitVec.toInt = _
  rw [Int64.toBitVec_shiftLeft, BitVec.shiftLeft_eq', ha, BitVec.toInt_shiftLeft]
  have e1 : (Int64.ofInt x).toBitVec.toNat = x.toNat := by
    show (BitVec.ofInt 64 x).toNat = _
    rw [BitVec.toNat_ofInt]
    omega
  rw [e1, Nat.shiftLeft_eq]
  have e2 : ((x.toNat * 2 ^ (3 * m) : Nat) : Int) = x * p8 m := by
    rw [Int.natCast_mul, ← p8_two, Int.toNat_of_nonneg hx]
  rw [e2]
  have h0 : 0 ≤ x * p8 m := by omega
  apply Int.bmod_eq_of_le <;> omega
