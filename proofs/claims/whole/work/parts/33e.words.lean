/-! ===== the words of a reading, alike, by the reference ===== -/
section WDF
variable {d nn Ln : Nat} {fz : Bool} {K : Post} {I : HI} {J : HJ} {W H : Nat} {C : Cel} {g : Nat} {w : Wds} {L : List Int32}
theorem scS_s (r : Nat → Int32) (n : Nat) (lst : Nat → Nat → Bool) (i : Nat) : scS r n lst (i + 1) = if i = n ∨ r i = 32 then (if (scS r n lst i).2.2 < i then ((scS r n lst i).1 + 1, (scS r n lst i).2.1 + (if lst (scS r n lst i).2.2 (i - (scS r n lst i).2.2) then 1 else 0), i + 1) else ((scS r n lst i).1, (scS r n lst i).2.1, i + 1)) else scS r n lst i := rfl
theorem sp_wordsFrom (hn : 74 ≤ nn) (hN : NowR I W H C) (hw : Ws9 I w) (hg : g < 2 * (W + H)) (hK : ∀ I', RdF I I' → Rd9 I' (rdg W H C g) → Wk W H C I' g → K (.inl (some (.int (score w (rdg W H C g))))) (hp fz nn (lay Ln) I' J)) :
    cal (d + 5) 178 [.ref 59, .int (Int32.ofNat g)] (hp fz nn (lay Ln) I J) K := by
  have hl := rdg_len (C := C) hN.W0 hN.H0 hN.n hg
  have hgd := gd_rdg W H C g
  refine call_in (Nat.le_of_ble_eq_true rfl) rfl rfl (r_178_0 hn (sp_readsFrom (d := d) hn hN hg (fun I1 f1 r1 k1 => kc_0 rfl rfl (r_178_5 hn ?_))))
  replace hK := hK I1 f1 r1 k1
  have hw1 := hw.mono (f1.row (a := 60) (by decide))
  generalize hL : rdg W H C g = L at *
  clear hL
  generalize hS : scS (fun k => L.getD k 0) L.length (lsR w L) = S at *
  have Ss : ∀ i, S (i + 1) = if i = L.length ∨ L.getD i 0 = 32 then (if (S i).2.2 < i then ((S i).1 + 1, (S i).2.1 + (if lsR w L (S i).2.2 (i - (S i).2.2) then 1 else 0), i + 1) else ((S i).1, (S i).2.1, i + 1)) else S i := fun i => by rw [← hS]; exact scS_s _ _ _ i
  have Sle : ∀ i, (S i).1 ≤ i ∧ (S i).2.1 ≤ (S i).1 ∧ (S i).2.2 ≤ i := fun i => by rw [← hS]; exact scS_le _ _ _ i
  -- the end
  have fin : ∀ i, i ≤ L.length + 1 → L.length ≤ i → S i = ((S i).1, (S i).2.1, i) → (if Int32.ofNat (S i).1 ≤ 0 then (K (.inl (some (.int ((-1) - Int32.ofNat (S i).2.1)))) (hp fz nn (lay Ln) I1 J)) else (if Int32.ofNat (S i).2.1 = Int32.ofNat (S i).1 then (K (.inl (some (.int (Int32.ofNat (S i).2.1)))) (hp fz nn (lay Ln) I1 J)) else (K (.inl (some (.int ((-1) - Int32.ofNat (S i).2.1)))) (hp fz nn (lay Ln) I1 J)))) := by
    intro i h1 h2 h3
    have s0 := Sle i
    have e : (S (L.length + 1)).1 = (S i).1 ∧ (S (L.length + 1)).2.1 = (S i).2.1 := by
      by_cases q : i = L.length + 1
      · subst q; exact ⟨rfl, rfl⟩
      · have q2 : i = L.length := by omega
        subst q2
        have h4 : (S L.length).2.2 = L.length := by rw [h3]
        rw [Ss, if_pos (Or.inl rfl), h4, if_neg (Nat.lt_irrefl _)]
        exact ⟨rfl, rfl⟩
    unfold score scR at hK
    rw [hS, e.1, e.2] at hK
    by_cases h0 : 0 < (S i).1
    · refine if_n (show ¬ Int32.ofNat (S i).1 ≤ 0 from le_n (b := 0) h0 (by omega)) ?_
      by_cases h4 : (S i).2.1 = (S i).1
      · rw [if_pos ⟨h0, h4⟩] at hK
        exact if_y (by rw [h4]) hK
      · rw [if_neg (fun q => h4 q.2)] at hK
        exact if_n (fun q => h4 ((oN_eq (by omega) (by omega)).mp q)) hK
    · rw [if_neg (fun q => h0 q.1)] at hK
      exact if_y (show Int32.ofNat (S i).1 ≤ 0 from le_y (b := 0) (by omega) (by decide)) hK
  -- one word
  have word : ∀ s, s < L.length → S s = ((S s).1, (S s).2.1, s) → isLB (L.getD s 0) = true →
      (∀ e, s < e → e ≤ L.length → (e = L.length ∨ L.getD e 0 = 32) → S (e + 1) = ((S s).1 + 1, (S s).2.1 + (if lsR w L s (e - s) then 1 else 0), e + 1) → EX (cal (d + 4)) 178 K 12 [some (.ref 59), none, some (.int (Int32.ofNat (S (e + 1)).1)), some (.int (Int32.ofNat (S (e + 1)).2.1)), some (.int (Int32.ofNat (e + 1))), none] [] (0, 0) (hp fz nn (lay Ln) I1 J)) →
      ∀ m e, e + m = L.length → s ≤ e → (∀ k, s ≤ k → k < e → isLB (L.getD k 0) = true) → S e = S s → EX (cal (d + 4)) 178 K 25 [some (.ref 59), none, some (.int (Int32.ofNat (S s).1)), some (.int (Int32.ofNat (S s).2.1)), some (.int (Int32.ofNat s)), some (.int (Int32.ofNat e))] [] (0, 0) (hp fz nn (lay Ln) I1 J) := by
    intro s hs hSs hlb0 hnext m
    -- the word ends at e
    have stop : ∀ e, s < e → e ≤ L.length → (e = L.length ∨ L.getD e 0 = 32) → (∀ k, s ≤ k → k < e → isLB (L.getD k 0) = true) → S e = S s →
        cal (d + 4) 177 [.ref 59, .int (Int32.ofNat s), .int (Int32.ofNat e)] (hp fz nn (lay Ln) I1 J) (KC (d + 4) 178 K 63 [some (.ref 59), none, some (.int (Int32.ofNat (S s).1 + 1)), some (.int (Int32.ofNat (S s).2.1)), some (.int (Int32.ofNat s)), some (.int (Int32.ofNat e))] [.int (Int32.ofNat (S s).2.1)] (0, 0) 177 (hp fz nn (lay Ln) I1 J)) := by
      intro e h1 h2 h3 h4 h5
      have h6 : (S s).2.2 = s := by rw [hSs]
      have e1 : S (e + 1) = ((S s).1 + 1, (S s).2.1 + (if lsR w L s (e - s) then 1 else 0), e + 1) := by
        rw [Ss, if_pos h3, h5, h6, if_pos h1]
      have hx := hnext e h1 h2 h3 e1
      rw [e1] at hx
      refine sp_isListed (d := d + 3) hn hw1 r1 hl (by omega) h2 h4 (kc_v rfl rfl (r_178_63 hn ?_))
      rw [oN_succ, oN_succ, oN_succ, Int32.add_zero]
      have e2 : inW w (fun k => L.getD k 0) s (e - s) = lsR w L s (e - s) := rfl
      rw [e2]
      refine b2c (fun q => ?_) (fun q => ?_)
      · rw [q] at hx; exact hx
      · rw [q] at hx; exact hx
    induction m with
    | zero =>
      intro e he hse hlb hSe
      obtain rfl : e = L.length := he
      exact r_178_25 hn (if_y (by rw [r1.n]; exact Int32.le_refl _) (stop _ hs (Nat.le_refl _) (Or.inl rfl) hlb hSe))
    | succ m ih =>
      intro e he hse hlb hSe
      refine r_178_25 hn (if_n (by rw [r1.n]; exact le_n (by omega) (by omega)) ⟨oN_vin (by omega) (by decide), ?_⟩)
      rw [oN_clamp (by omega), r1.at_ e (by omega)]
      rcases hgd e (by omega) with h1 | ⟨h1, -, -, -⟩
      · refine if_n (ph_m1 h1) ?_
        rw [oN_succ]
        refine ih (e + 1) (by omega) (by omega) (fun k h2 h3 => ?_) ?_
        · by_cases q : k = e
          · subst q; exact h1
          · exact hlb k h2 (by omega)
        · rw [Ss, if_neg (fun z => z.elim (fun z => by omega) (fun z => lb_32 h1 z))]; exact hSe
      · refine if_y (by rw [h1]; rfl) (stop e ?_ (by omega) (Or.inr h1) hlb hSe)
        by_cases q : e = s
        · subst q; rw [h1] at hlb0; exact absurd hlb0 (by decide)
        · omega
  have lp : ∀ m s, s + m = L.length + 1 → S s = ((S s).1, (S s).2.1, s) → (s = 0 ∨ s = L.length + 1 ∨ L.getD (s - 1) 0 = 32) → EX (cal (d + 4)) 178 K 12 [some (.ref 59), none, some (.int (Int32.ofNat (S s).1)), some (.int (Int32.ofNat (S s).2.1)), some (.int (Int32.ofNat s)), none] [] (0, 0) (hp fz nn (lay Ln) I1 J) := by
    intro m
    induction m using Nat.strongRecOn with
    | _ m ih =>
      intro s hs hSs hst
      by_cases q : L.length ≤ s
      · exact r_178_12 hn (if_y (by rw [r1.n]; exact le_y q (by omega)) (fin s (by omega) q hSs))
      · refine r_178_12 hn (if_n (by rw [r1.n]; exact le_n (by omega) (by omega)) ?_)
        have hlb : isLB (L.getD s 0) = true := by
          rcases hgd s (by omega) with h1 | ⟨h1, h2, h3, h4⟩
          · exact h1
          · exfalso
            rcases hst with h5 | h5 | h5
            · omega
            · omega
            · rw [h5] at h3; exact absurd h3 (by decide)
        refine word s (by omega) hSs hlb (fun e h1 h2 h3 h4 => ?_) (L.length - s) s (by omega) (Nat.le_refl _) (fun k h1 h2 => by omega) rfl
        refine ih (L.length + 1 - (e + 1)) (by omega) (e + 1) (by omega) (by rw [h4]) ?_
        rcases h3 with h3 | h3
        · right; left; omega
        · right; right; rw [Nat.add_sub_cancel]; exact h3
  have s0 : S 0 = (0, 0, 0) := by rw [← hS]; rfl
  have := lp (L.length + 1) 0 (Nat.zero_add _) (by rw [s0]) (Or.inl rfl)
  rw [s0] at this
  exact this
theorem ph_inj {L M : List Int32} (hL : GdL L) (hM : GdL M) {k : Nat} (h1 : k < L.length) (h2 : k < M.length) : phB (L.getD k 0) = phB (M.getD k 0) ↔ L.getD k 0 = M.getD k 0 := by
  constructor
  · intro h
    rcases hL k h1 with a | ⟨a, -⟩
    · rcases hM k h2 with b | ⟨b, -⟩
      · rw [ph_lb a, ph_lb b] at h; exact sub97.mp h
      · rw [b] at h; exact absurd h (ph_m1 a)
    · rcases hM k h2 with b | ⟨b, -⟩
      · rw [a] at h; exact absurd h.symm (ph_m1 b)
      · rw [a, b]
  · intro h; rw [h]
/-- what alike changes -/
def AlF (I I' : HI) : Prop := ∀ a k, ¬ (a = 64 ∨ a = 65 ∨ a = 66 ∨ a = 67 ∨ (a = 59 ∧ 9 ≤ k ∧ k ≤ 14)) → I' a k = I a k
theorem AlF.q {I I' : HI} {J : HJ} (h : AlF I I') : RQ I J I' J := ⟨fun a k q => h a k (by omega), fun _ _ => rfl⟩
theorem sp_isAlike (hn : 74 ≤ nn) (hN : NowR I W H C) (hg : g < 2 * (W + H)) (hK : ∀ I', AlF I I' → K (.inl (some (.int (b2 (alikeB W H C g))))) (hp fz nn (lay Ln) I' J)) :
    cal (d + 5) 180 [.ref 59, .int (Int32.ofNat g)] (hp fz nn (lay Ln) I J) K := by
  have hb := hN.g28
  have hl := rdg_len (C := C) hN.W0 hN.H0 hN.n hg
  have hgd := gd_rdg W H C g
  refine call_in (Nat.le_of_ble_eq_true rfl) rfl rfl (r_180_0 hn (sp_readsFrom (d := d) hn hN hg (fun I1 f1 r1 k1 => kc_0 rfl rfl (r_180_5 hn ?_))))
  have fA : ∀ {I'}, RdF I I' → AlF I I' := fun h a k q => h a k (by omega)
  unfold alikeB at hK
  rw [k1.en]
  refine if_c (fun e => ?_) (fun e => ?_)
  · rw [if_pos e] at hK
    exact hK I1 (fA f1)
  · rw [if_neg e] at hK
    rcases bE_cases (C := C) hN.W0 hN.H0 hg with ⟨h3, -⟩ | ⟨q, h3, -, h5, -⟩
    · exact absurd h3 e
    · rw [h3, oN_clamp (by omega)] at hK
      have hl2 := rdg_len (C := C) hN.W0 hN.H0 hN.n h5
      have hgd2 := gd_rdg W H C q
      have lp2 : ∀ I2, AlF I I2 → Rd9 I2 (rdg W H C q) → (∀ k, k < (rdg W H C g).length → I2 67 k = phB ((rdg W H C g).getD k 0)) → (rdg W H C q).length = (rdg W H C g).length →
          ∀ m k, k + m = (rdg W H C g).length → (∀ j, j < k → (rdg W H C g).getD j 0 = (rdg W H C q).getD j 0) → EX (cal (d + 4)) 180 K 70 [some (.ref 59), none, some (.int (Int32.ofNat (rdg W H C g).length)), some (.int 1), some (.int (Int32.ofNat k))] [] (0, 0) (hp fz nn (lay Ln) I2 J) := by
        intro I2 f2 r2 c2 hlen m
        induction m with
        | zero =>
          intro k hk hall
          obtain rfl : k = (rdg W H C g).length := hk
          refine r_180_70 hn (if_y (Int32.le_refl _) ⟨Or.inr rfl, ?_⟩)
          have : rdg W H C g = rdg W H C q := by
            apply List.ext_getElem hlen.symm
            intro i g1 g2
            have := hall i g1
            simp only [List.getD, List.getElem?_eq_getElem g1, List.getElem?_eq_getElem g2, Option.getD_some] at this
            exact this
          have hK := hK I2 f2
          rw [decide_eq_true this] at hK
          exact hK
        | succ m ih =>
          intro k hk hall
          refine r_180_70 hn (if_n (le_n (by omega) (by omega)) (if_n (by decide) ⟨oN_vin (by omega) (by decide), ?_⟩))
          rw [oN_clamp (by omega), c2 k (by omega), r2.at_ k (by omega), oN_succ]
          refine if_c (fun z => ?_) (fun z => ?_)
          · have z := (ph_inj hgd hgd2 (show k < _ by omega) (show k < _ by omega)).mp z
            refine ih (k + 1) (by omega) (fun j hj => ?_)
            by_cases y : j = k
            · subst y; exact z
            · exact hall j (by omega)
          · have ne : ¬ rdg W H C g = rdg W H C q := fun y => z (by rw [y])
            have hK := hK I2 f2
            rw [decide_eq_false ne] at hK
            exact r_180_70 hn (if_c (fun _ => ⟨Or.inl rfl, hK⟩) (fun _ => if_y rfl ⟨Or.inl rfl, hK⟩))
      have lp : ∀ m k, k + m = (rdg W H C g).length → ∀ I2, AlF I I2 → Rd9 I2 (rdg W H C g) → I2 59 10 = Int32.ofNat q → (∀ j, j < k → I2 67 j = phB ((rdg W H C g).getD j 0)) → EX (cal (d + 4)) 180 K 22 [some (.ref 59), none, some (.int (Int32.ofNat (rdg W H C g).length)), some (.int (Int32.ofNat k)), none] [] (0, 0) (hp fz nn (lay Ln) I2 J) := by
        intro m
        induction m with
        | zero =>
          intro k hk I2 f2 r2 e2 c2
          obtain rfl : k = (rdg W H C g).length := hk
          have hN2 : NowR I2 W H C := hN.mono (by funext k; exact f2 60 k (by omega))
          refine r_180_22 hn (if_y (Int32.le_refl _) ?_)
          rw [e2]
          refine sp_readsFrom (d := d) hn hN2 h5 (fun I3 f3 r3 k3 => kc_0 rfl rfl (r_180_53 hn ?_))
          have f4 : AlF I I3 := fun a k z => by rw [f3 a k (by omega)]; exact f2 a k z
          rw [r3.n]
          refine if_c (fun z => ?_) (fun z => ?_)
          · have z := (oN_eq (by omega) (by omega)).mp z
            exact lp2 I3 f4 r3 (fun k hk => by rw [f3 67 k (by omega)]; exact c2 k hk) z _ 0 (Nat.zero_add _) (fun j h => absurd h (Nat.not_lt_zero j))
          · have ne : ¬ rdg W H C g = rdg W H C q := fun y => z (by rw [y])
            have hK := hK I3 f4
            rw [decide_eq_false ne] at hK
            exact r_180_70 hn (if_c (fun _ => ⟨Or.inl rfl, hK⟩) (fun _ => if_y rfl ⟨Or.inl rfl, hK⟩))
        | succ m ih =>
          intro k hk I2 f2 r2 e2 c2
          refine r_180_22 hn (if_n (le_n (by omega) (by omega)) ⟨oN_vin (by omega) (by decide), ?_⟩)
          rw [oN_clamp (by omega), r2.at_ k (by omega), oN_succ]
          refine ih (k + 1) (by omega) _ (fun a j z => ?_) (Rd9.mk ?_ (fun j hj => ?_)) ?_ (fun j hj => ?_)
          · rw [w2_at, if_neg (by omega)]; exact f2 a j z
          · rw [w2_ne _ _ (by decide)]; exact r2.n
          · rw [w2_ne _ _ (by decide)]; exact r2.at_ j hj
          · rw [w2_ne _ _ (by decide)]; exact e2
          · rw [w2_at]
            by_cases y : j = k
            · subst y; rw [if_pos ⟨rfl, rfl⟩]
            · rw [if_neg (fun z => y z.2)]; exact c2 j (by omega)
      rw [r1.n]
      exact lp _ 0 (Nat.zero_add _) I1 (fA f1) r1 (by rw [k1.en]; exact h3) (fun j h => absurd h (Nat.not_lt_zero j))
end WDF
