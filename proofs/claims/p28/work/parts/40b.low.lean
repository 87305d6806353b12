/-! ===== low, cell of the law ===== -/
def lowV (v n : Int32) : Int32 := (v &&& 2147483647) - (v &&& 2147483647) / n * n
/-- the script's int, or the one behind it -/
def celV (Ln : Nat) (f : Nat → Int32) (p : Int32) : Int32 := (fun y : Int32 => y ^^^ ((y.toUInt32 >>> ((15 : Int32).toUInt32 &&& Int32.toUInt32 31)).toInt32)) (if Int32.ofNat Ln ≤ p then 916318735 * (p + 3) else f p.toNatClampNeg)
section LOW
variable {d nn Ln fz : Nat} {K : Post} {I : HI} {J : HJ}
theorem sp_low {v n : Int32} (hn : 59 ≤ nn) (h0 : ¬ n = 0) (hK : K (.inl (some (.int (lowV v n)))) (hp fz nn (lay Ln) I J)) : cal (d + 1) 131 [.int v, .int n] (hp fz nn (lay Ln) I J) K :=
  call_in (Nat.le_of_ble_eq_true rfl) rfl rfl (q_131_0 hn ⟨h0, hK⟩)
theorem sp_celV {p : Nat} (hn : 59 ≤ nn) (hL : Ln < 2 ^ 31) (hp2 : p < 2 ^ 31) (hK : K (.inl (some (.int (celV Ln (I 0) (Int32.ofNat p))))) (hp fz nn (lay Ln) I J)) : cal (d + 1) 130 [.ref 0, .int (Int32.ofNat p)] (hp fz nn (lay Ln) I J) K := by
  refine call_in (Nat.le_of_ble_eq_true rfl) rfl rfl (q_130_0 hn (if_c (fun e => q_130_18 hn ?_) (fun e => ⟨?_, q_130_18 hn ?_⟩)))
  · unfold celV at hK; rw [if_pos e] at hK; exact hK
  · have h1 : p < Ln := by
      have : ¬ Ln ≤ p := fun z => e ((oN_le hL hp2).mpr z)
      omega
    exact oN_vin h1 hL
  · unfold celV at hK; rw [if_neg e] at hK; exact hK
end LOW
