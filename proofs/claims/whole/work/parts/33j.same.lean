/-! ===== the two orders of a search are the same ===== -/
section SAM
variable {most : Nat} {ok : Int32 → Bool} {f : Int32 → SR → SR}
theorem foldC_skip {g : Int32} {gs : List Int32} {s : SR} (h : ok g = false) : foldC most ok f (g :: gs) s = foldC most ok f gs s := by
  cases e : ovS most s with
  | true => rw [foldC_ov e, foldC_ov e]
  | false => rw [foldC_cons e, h, if_neg Bool.false_ne_true]
theorem foldC_filter (l : List Int32) : ∀ s, foldC most ok f l s = foldC most ok f (l.filter ok) s := by
  induction l with
  | nil => exact fun _ => rfl
  | cons g gs ih =>
    intro s
    cases h : ok g with
    | false => rw [foldC_skip h, ih, List.filter_cons_of_neg (by rw [h]; exact Bool.false_ne_true)]
    | true =>
      rw [List.filter_cons_of_pos h]
      cases e : ovS most s with
      | true => rw [foldC_ov e, foldC_ov e]
      | false => rw [foldC_cons e, foldC_cons e, ih]
theorem foldC_congr {f' : Int32 → SR → SR} (l : List Int32) : (∀ g s, f g s = f' g s) → ∀ s, foldC most ok f l s = foldC most ok f' l s := by
  intro h
  have : f = f' := by funext g s; exact h g s
  subst this
  exact fun _ => rfl
theorem srt_eq : ∀ l1 l2 : List Int32, l1.Pairwise (· < ·) → l2.Pairwise (· < ·) → (∀ x, x ∈ l1 ↔ x ∈ l2) → l1 = l2 := by
  intro l1
  induction l1 with
  | nil =>
    intro l2 _ _ h
    cases l2 with
    | nil => rfl
    | cons y ys => exact absurd ((h y).mpr List.mem_cons_self) List.not_mem_nil
  | cons x xs ih =>
    intro l2 h1 h2 h
    cases l2 with
    | nil => exact absurd ((h x).mp List.mem_cons_self) List.not_mem_nil
    | cons y ys =>
      rw [List.pairwise_cons] at h1 h2
      have hxy : x = y := by
        rcases List.mem_cons.mp ((h x).mp List.mem_cons_self) with e | e
        · exact e
        · rcases List.mem_cons.mp ((h y).mpr List.mem_cons_self) with e2 | e2
          · exact e2.symm
          · exact absurd (Int32.lt_trans (h1.1 y e2) (h2.1 x e)) Int32.lt_irrefl
      subst hxy
      congr 1
      refine ih ys h1.2 h2.2 (fun z => ?_)
      constructor
      · intro hz
        rcases List.mem_cons.mp ((h z).mp (List.mem_cons_of_mem _ hz)) with e | e
        · subst e; exact absurd (h1.1 z hz) Int32.lt_irrefl
        · exact e
      · intro hz
        rcases List.mem_cons.mp ((h z).mpr (List.mem_cons_of_mem _ hz)) with e | e
        · subst e; exact absurd (h2.1 z hz) Int32.lt_irrefl
        · exact e
end SAM
section SAB
variable {W H : Nat} {C : Cel}
/-- the usable bands, ascending -/
noncomputable def usb (W H : Nat) (C : Cel) (G : Nat) : List Int32 := ((List.range G).filter fun g => decide (mkG W H C g ≠ 0)).map Int32.ofNat
theorem usb_mem {G : Nat} {b : Int32} : b ∈ usb W H C G ↔ ∃ g, g < G ∧ mkG W H C g ≠ 0 ∧ b = Int32.ofNat g := by
  unfold usb
  rw [List.mem_map]
  constructor
  · rintro ⟨g, h, e⟩
    rw [List.mem_filter, List.mem_range] at h
    exact ⟨g, h.1, decide_eq_true_iff.mp h.2, e.symm⟩
  · rintro ⟨g, h1, h2, e⟩
    exact ⟨g, List.mem_filter.mpr ⟨List.mem_range.mpr h1, decide_eq_true h2⟩, e.symm⟩
theorem usb_succ (G : Nat) : usb W H C (G + 1) = if mkG W H C G ≠ 0 then usb W H C G ++ [Int32.ofNat G] else usb W H C G := by
  unfold usb
  rw [List.range_succ, List.filter_append, List.map_append]
  by_cases h : mkG W H C G ≠ 0
  · rw [if_pos h]
    simp [h]
  · rw [if_neg h]
    simp at h
    simp [h]
theorem usb_len {G : Nat} : (usb W H C G).length ≤ G := by
  unfold usb
  rw [List.length_map]
  exact Nat.le_trans (List.length_filter_le _ _) (by rw [List.length_range]; exact Nat.le_refl G)
theorem usb_srt {G : Nat} (hG : G ≤ 28) : (usb W H C G).Pairwise (· < ·) := by
  induction G with
  | zero => exact List.Pairwise.nil
  | succ G ih =>
    rw [usb_succ]
    by_cases h : mkG W H C G ≠ 0
    · rw [if_pos h, List.pairwise_append]
      refine ⟨ih (by omega), List.pairwise_singleton _ _, fun a ha b hb => ?_⟩
      obtain ⟨g, h1, -, rfl⟩ := usb_mem.mp ha
      obtain rfl := List.mem_singleton.mp hb
      exact lt_y h1 (by omega)
    · rw [if_neg h]
      exact ih (by omega)
theorem eIn_iff {p c g n : Nat} : eIn W H C p c g n = true ↔ ∃ i, i < n ∧ pC W H C g i = c ∧ pD4 W H C g i % 2 = p := by
  induction n with
  | zero => exact ⟨fun h => (by cases h), fun ⟨i, h, _⟩ => absurd h (Nat.not_lt_zero i)⟩
  | succ n ih =>
    unfold eIn
    rw [Bool.or_eq_true, ih, Bool.and_eq_true, decide_eq_true_iff, decide_eq_true_iff]
    constructor
    · rintro (⟨i, h1, h2⟩ | h)
      · exact ⟨i, by omega, h2⟩
      · exact ⟨n, by omega, h⟩
    · rintro ⟨i, h1, h2⟩
      by_cases e : i = n
      · subst e; exact Or.inr h2
      · exact Or.inl ⟨i, by omega, h2⟩
theorem lowB_s (p c G : Nat) : lowB W H C p c (G + 1) = if lowB W H C p c G = -1 ∧ fstB W H C G = true ∧ eIn W H C p c G (bN W H C G) = true then Int32.ofNat G else lowB W H C p c G := rfl
theorem lowB_of {p c G : Nat} (hG : G ≤ 28) : lowB W H C p c G = -1 ∨ ∃ g, g < G ∧ lowB W H C p c G = Int32.ofNat g ∧ fstB W H C g = true ∧ eIn W H C p c g (bN W H C g) = true := by
  induction G with
  | zero => exact Or.inl rfl
  | succ G ih =>
    rw [lowB_s]
    by_cases h : lowB W H C p c G = -1 ∧ fstB W H C G = true ∧ eIn W H C p c G (bN W H C G) = true
    · rw [if_pos h]
      exact Or.inr ⟨G, by omega, rfl, h.2⟩
    · rw [if_neg h]
      rcases ih (by omega) with h1 | ⟨g, h1, h2, h3⟩
      · exact Or.inl h1
      · exact Or.inr ⟨g, by omega, h2, h3⟩
theorem lowB_one {p c g G : Nat} (hG : G ≤ 28) (hg : g < G) (hf : fstB W H C g = true) (he : eIn W H C p c g (bN W H C g) = true) (hu : ∀ g', g' < G → fstB W H C g' = true → eIn W H C p c g' (bN W H C g') = true → g' = g) : lowB W H C p c G = Int32.ofNat g := by
  have none : ∀ m, m ≤ g → lowB W H C p c m = -1 := by
    intro m
    induction m with
    | zero => exact fun _ => rfl
    | succ m ih =>
      intro hm
      rw [lowB_s, if_neg (fun h => ?_)]
      · exact ih (by omega)
      · have := hu m (by omega) h.2.1 h.2.2
        omega
  have some_ : ∀ m, g + 1 + m ≤ G → lowB W H C p c (g + 1 + m) = Int32.ofNat g := by
    intro m
    induction m with
    | zero =>
      intro _
      rw [Nat.add_zero, lowB_s, if_pos ⟨none g (Nat.le_refl g), hf, he⟩]
    | succ m ih =>
      intro hm
      have h1 := ih (by omega)
      rw [← Nat.add_assoc, lowB_s, if_neg (fun h => ?_)]
      · exact h1
      · rw [h1] at h
        exact absurd h.1 (g_ne (by omega))
  have := some_ (G - (g + 1)) (by omega)
  rw [show g + 1 + (G - (g + 1)) = G by omega] at this
  exact this
theorem rb_no {v : Int32} (h : isRB v = true) : v ≠ 35 ∧ v ≠ 47 ∧ v ≠ 92 := by
  refine ⟨?_, ?_, ?_⟩ <;> · rintro rfl; exact absurd h (by decide)
theorem eIn_one (hW : 0 < W) (hH : 0 < H) (hb : 2 * (W + H) ≤ 28) {p c g g' : Nat} (hg : g < 2 * (W + H)) (hg' : g' < 2 * (W + H)) (hf : fstB W H C g = true) (hf' : fstB W H C g' = true) (hr : isRB (C c) = true) (he : eIn W H C p c g (bN W H C g) = true) (he' : eIn W H C p c g' (bN W H C g') = true) : g = g' := by
  obtain ⟨i, h1, h2, h3⟩ := eIn_iff.mp he
  obtain ⟨j, k1, k2, k3⟩ := eIn_iff.mp he'
  obtain ⟨r1, r2, r3⟩ := rb_no hr
  have eb : byt W C (pS W H C g i) = C c := by unfold byt; rw [← h2]; rfl
  exact (it_one hW hH hg hg' ((fstG_iff hW hH hb hg).mpr (fstB_iff.mp hf)) ((fstG_iff hW hH hb hg').mpr (fstB_iff.mp hf')) (it_some hW hH hg h1) (it_some hW hH hg' k1)
    (by show pC W H C g i = pC W H C g' j; rw [h2, k2]) (by rw [eb]; exact r1) (by rw [eb]; exact r2) (by rw [eb]; exact r3) (by show pD4 W H C g i % 2 = pD4 W H C g' j % 2; rw [h3, k3])).1
theorem crB_of {f : Nat → Nat} {n i j : Nat} (hi : i < n) (hj : j < n) (hne : i ≠ j) (he : f i = f j) : crB f n = true := by
  have key : ∀ n i j, i < j → j < n → f i = f j → crB f n = true := by
    intro n
    induction n with
    | zero => intro i j _ h; exact absurd h (Nat.not_lt_zero j)
    | succ n ih =>
      intro i j h1 h2 h3
      unfold crB
      rw [Bool.or_eq_true]
      by_cases e : j = n
      · subst e
        exact Or.inr (decide_eq_true (cntB_pos.mpr ⟨i, h1, decide_eq_true h3⟩))
      · exact Or.inl (ih i j h1 (by omega) h3)
  by_cases h : i < j
  · exact key n i j h hj he
  · exact key n j i (by omega) hi he.symm
theorem mkG_ne {g : Nat} (h : mkG W H C g ≠ 0) : g < 2 * (W + H) ∧ fstB W H C g = true ∧ crB (pC W H C g) (bN W H C g) = false ∧ mkG W H C g = orB (pC W H C g) (bN W H C g) &&& rmask C (W * H) := by
  unfold mkG at h ⊢
  by_cases q : g < 2 * (W + H) ∧ fstB W H C g = true ∧ crB (pC W H C g) (bN W H C g) = false
  · rw [if_pos q]
    exact ⟨q.1, q.2.1, q.2.2, rfl⟩
  · rw [if_neg q] at h
    exact absurd rfl h
theorem bt_n0 {x : Int64} {c : Nat} (h : bt x c = true) : x ≠ 0 := by
  rintro rfl
  rw [bt_zero] at h
  cases h
theorem mkS_ne {b : Int32} (h : mkS W H C b ≠ 0) : ∃ g, g < 28 ∧ b = Int32.ofNat g ∧ mkS W H C b = mkG W H C g := by
  unfold mkS atJ at h ⊢
  by_cases h1 : b < 0
  · rw [if_pos h1] at h; exact absurd rfl h
  · rw [if_neg h1] at h ⊢
    by_cases h2 : Int32.ofNat 28 ≤ b
    · rw [if_pos h2] at h; exact absurd rfl h
    · rw [if_neg h2] at h ⊢
      obtain ⟨e, h3⟩ := nn_nat (Int32.not_lt.mp h1)
      refine ⟨b.toNatClampNeg, ?_, e, rfl⟩
      rw [e] at h2
      have : ¬ 28 ≤ b.toNatClampNeg := fun z => h2 (le_y z h3)
      omega
theorem mkS_at {g : Nat} (hg : g < 28) : mkS W H C (Int32.ofNat g) = mkG W H C g := atJ_oN hg (by decide)
/-- the bands that may be chosen for a cell -/
theorem cand_eq (hW : 2 ≤ W ∧ W ≤ 7) (hH : 2 ≤ H ∧ H ≤ 7) {cov : Int64} {c : Nat} (hc : c < W * H) (hr : isRB (C c) = true) : [loS W H C c, hiS W H C c].filter (okS (mkS W H C) cov c) = (usb W H C (2 * (W + H))).filter (okS (mkS W H C) cov c) := by
  have hb : 2 * (W + H) ≤ 28 := by omega
  have h49 := n49 hW.2 hH.2
  have hW0 : 0 < W := by omega
  have hH0 : 0 < H := by omega
  have okb : ∀ b, okS (mkS W H C) cov c b = true → bt (mkS W H C b) c = true := fun b h => by
    unfold okS at h
    rw [Bool.and_eq_true] at h
    exact h.1
  -- the two by their values
  have lohi : (loS W H C c = lowB W H C 1 c (2 * (W + H)) ∧ hiS W H C c = lowB W H C 0 c (2 * (W + H)) ∧ lowB W H C 1 c (2 * (W + H)) ≤ lowB W H C 0 c (2 * (W + H))) ∨ (loS W H C c = lowB W H C 0 c (2 * (W + H)) ∧ hiS W H C c = lowB W H C 1 c (2 * (W + H)) ∧ lowB W H C 0 c (2 * (W + H)) ≤ lowB W H C 1 c (2 * (W + H))) := by
    unfold loS hiS
    by_cases h : lowB W H C 0 c (2 * (W + H)) < lowB W H C 1 c (2 * (W + H))
    · right
      have h2 : ¬ lowB W H C 1 c (2 * (W + H)) < lowB W H C 0 c (2 * (W + H)) := fun z => Int32.lt_irrefl (Int32.lt_trans h z)
      rw [if_pos h, if_neg h2]
      exact ⟨rfl, rfl, Int32.not_lt.mp h2⟩
    · left
      rw [if_neg h]
      by_cases h2 : lowB W H C 1 c (2 * (W + H)) < lowB W H C 0 c (2 * (W + H))
      · rw [if_pos h2]
        exact ⟨rfl, rfl, Int32.not_lt.mp h⟩
      · rw [if_neg h2]
        have e : lowB W H C 1 c (2 * (W + H)) = lowB W H C 0 c (2 * (W + H)) := Int32.le_antisymm (Int32.not_lt.mp h) (Int32.not_lt.mp h2)
        rw [e]
        exact ⟨rfl, rfl, Int32.le_refl _⟩
  -- a usable band that enters the cell is one of both
  have one : ∀ g, bt (mkG W H C g) c = true → Int32.ofNat g = lowB W H C 1 c (2 * (W + H)) ∨ Int32.ofNat g = lowB W H C 0 c (2 * (W + H)) := by
    intro g h
    obtain ⟨h1, h2, h3, h4⟩ := mkG_ne (bt_n0 h)
    rw [h4, bt_and, Bool.and_eq_true] at h
    obtain ⟨i, k1, k2⟩ := (bt_orB (fun i hi => by have := pC_lt (C := C) hW0 hH0 h1 hi; omega) c).mp h.1
    have hp : ∀ p, pD4 W H C g i % 2 = p → lowB W H C p c (2 * (W + H)) = Int32.ofNat g := fun p hp =>
      lowB_one hb h1 h2 (eIn_iff.mpr ⟨i, k1, k2, hp⟩) (fun g' q1 q2 q3 => eIn_one hW0 hH0 hb q1 h1 q2 h2 hr q3 (eIn_iff.mpr ⟨i, k1, k2, hp⟩))
    have : pD4 W H C g i % 2 = 1 ∨ pD4 W H C g i % 2 = 0 := by omega
    rcases this with z | z
    · exact Or.inl (hp 1 z).symm
    · exact Or.inr (hp 0 z).symm
  -- both the same: it crosses itself
  have diff : ∀ b, b = lowB W H C 1 c (2 * (W + H)) → b = lowB W H C 0 c (2 * (W + H)) → bt (mkS W H C b) c = true → False := by
    intro b e1 e0 h
    obtain ⟨g, h1, h2, h3⟩ := mkS_ne (bt_n0 h)
    rw [h3] at h
    obtain ⟨q1, q2, q3, q4⟩ := mkG_ne (bt_n0 h)
    have get : ∀ p, b = lowB W H C p c (2 * (W + H)) → eIn W H C p c g (bN W H C g) = true := by
      intro p e
      rcases lowB_of (W := W) (H := H) (C := C) (p := p) (c := c) hb with z | ⟨g', z1, z2, z3, z4⟩
      · rw [← e, h2] at z; exact absurd z (g_ne (by omega))
      · rw [← e, h2] at z2
        have := (oN_eq (by omega) (by omega)).mp z2
        rw [this]; exact z4
    obtain ⟨i, a1, a2, a3⟩ := eIn_iff.mp (get 1 e1)
    obtain ⟨j, b1, b2', b3⟩ := eIn_iff.mp (get 0 e0)
    have := crB_of a1 b1 (fun z => by rw [z] at a3; omega) (a2.trans b2'.symm)
    rw [this] at q3
    cases q3
  apply srt_eq
  · rw [List.filter_cons, List.filter_cons, List.filter_nil]
    split
    · rename_i o1
      split
      · rename_i o2
        rw [List.pairwise_cons]
        refine ⟨fun a ha => ?_, List.pairwise_singleton _ _⟩
        obtain rfl := List.mem_singleton.mp ha
        rcases lohi with ⟨e1, e2, e3⟩ | ⟨e1, e2, e3⟩
        · rw [e1, e2]
          rcases Int32.lt_or_eq_of_le e3 with z | z
          · exact z
          · exact (diff _ rfl z (by have := okb _ o1; rw [e1] at this; exact this)).elim
        · rw [e1, e2]
          rcases Int32.lt_or_eq_of_le e3 with z | z
          · exact z
          · exact (diff _ z rfl (by have := okb _ o1; rw [e1] at this; exact this)).elim
      · exact List.pairwise_singleton _ _
    · split
      · exact List.pairwise_singleton _ _
      · exact List.Pairwise.nil
  · exact (usb_srt hb).filter _
  · intro x
    rw [List.mem_filter, List.mem_filter]
    constructor
    · rintro ⟨-, h⟩
      refine ⟨?_, h⟩
      obtain ⟨g, h1, h2, h3⟩ := mkS_ne (bt_n0 (okb x h))
      have h4 := okb x h
      rw [h3] at h4
      have h5 := bt_n0 h4
      exact usb_mem.mpr ⟨g, (mkG_ne h5).1, h5, h2⟩
    · rintro ⟨h0, h⟩
      refine ⟨?_, h⟩
      obtain ⟨g, h1, h2, rfl⟩ := usb_mem.mp h0
      have h4 := okb _ h
      rw [mkS_at (by omega)] at h4
      rw [List.mem_cons, List.mem_singleton]
      rcases one g h4 with z | z
      · rcases lohi with ⟨e1, e2, -⟩ | ⟨e1, e2, -⟩
        · exact Or.inl (by rw [e1]; exact z)
        · exact Or.inr (by rw [e2]; exact z)
      · rcases lohi with ⟨e1, e2, -⟩ | ⟨e1, e2, -⟩
        · exact Or.inr (by rw [e2]; exact z)
        · exact Or.inl (by rw [e1]; exact z)
theorem lookS_same (hW : 2 ≤ W ∧ W ≤ 7) (hH : 2 ≤ H ∧ H ≤ 7) {most : Nat} : ∀ (n : Nat) (p : List Int32) (cov : Int64) (s : SR), lookS (rmask C (W * H)) (mkS W H C) (fun c => [loS W H C c, hiS W H C c]) most n p cov s = lookS (rmask C (W * H)) (mkS W H C) (fun _ => usb W H C (2 * (W + H))) most n p cov s := by
  have h49 := n49 hW.2 hH.2
  intro n
  induction n with
  | zero => exact fun _ _ _ => rfl
  | succ n ih =>
    intro p cov s
    unfold lookS
    split
    · rfl
    · split
      · rfl
      · rename_i h1 h2
        have hat := lowb_at h2
        unfold opn at hat
        rw [bt_and, bt_rmask (by omega), Bool.and_eq_true, Bool.and_eq_true] at hat
        have hc : lowb (opn (rmask C (W * H)) cov) < W * H := decide_eq_true_iff.mp hat.1.1
        have hr : isRB (C (lowb (opn (rmask C (W * H)) cov))) = true := hat.1.2
        rw [foldC_filter, cand_eq hW hH hc hr, ← foldC_filter]
        exact foldC_congr _ (fun g s => ih _ _ _) _
end SAB
