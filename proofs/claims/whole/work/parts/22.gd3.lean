theorem gm_none {K : Nat → Nat} {own : String} {init : Bool} : gm_pool vwCl ra_Tg ra_Ns ra_As own init (fun _ => none) ∧ gm_consts ra_Tg ra_Ns (ra_Zs K) (ra_Ss K) own (fun _ => none) ∧ gm_calls vwCl ra_Tg ra_Ns (ra_mt K) own (fun _ => none) := by
  refine ⟨⟨fun _ _ _ _ _ h => (nomatch h), fun _ _ _ _ h => (nomatch h), fun _ _ _ h => (nomatch h), fun _ _ h => (nomatch h)⟩, ⟨fun _ _ h => (nomatch h), fun _ _ h => (nomatch h), fun _ _ h => (nomatch h), fun _ _ h => (nomatch h)⟩, fun _ _ _ _ h => (nomatch h)⟩
def gm_row (K : Nat → Nat) (r : gm_Mi) : Prop := match r with
  | (own, y, cc, nL, ret, I, lk, ini) => plainName y.cls = true ∧ y.cls = own ∧ Cond.code y cc nL ret ∈ ra_Tg ∧ nL ≤ 80 ∧ (ini = true → y.name = "<init>") ∧ (∀ pc i, I pc = some i → gm_dec cc pc i) ∧ gm_pool vwCl ra_Tg ra_Ns ra_As own ini lk ∧ gm_consts ra_Tg ra_Ns (ra_Zs K) (ra_Ss K) own lk ∧ gm_calls vwCl ra_Tg ra_Ns (ra_mt K) own lk
theorem g10 (K : Nat → Nat) : gm_row K (m10 K) := ⟨by decide +kernel, rfl, w_293, by decide, fun _ => rfl, fun _ _ h => gm_I_dec h, gm_all (lX0t K)⟩
theorem g11 (K : Nat → Nat) : gm_row K (m11 K) := ⟨by decide +kernel, rfl, w_997, by decide, fun h => (nomatch h), fun _ _ h => gm_I_dec h, gm_all (lX0f K)⟩
theorem g12 (K : Nat → Nat) : gm_row K (m12 K) := ⟨by decide +kernel, rfl, w_1043, by decide, fun h => (nomatch h), fun _ _ h => gm_I_dec h, gm_all (lX0f K)⟩
theorem g13 (K : Nat → Nat) : gm_row K (m13 K) := ⟨by decide +kernel, rfl, w_1050, by decide, fun h => (nomatch h), fun _ _ h => gm_I_dec h, gm_all (lX0f K)⟩
theorem g14 (K : Nat → Nat) : gm_row K (m14 K) := ⟨by decide +kernel, rfl, w_1056, by decide, fun h => (nomatch h), fun _ _ h => gm_I_dec h, gm_all (lX0f K)⟩
theorem g15 (K : Nat → Nat) : gm_row K (m15 K) := ⟨by decide +kernel, rfl, w_1060, by decide, fun h => (nomatch h), fun _ _ h => gm_I_dec h, gm_all (lX0f K)⟩
theorem g16 (K : Nat → Nat) : gm_row K (m16 K) := ⟨by decide +kernel, rfl, w_1068, by decide, fun h => (nomatch h), fun _ _ h => gm_I_dec h, gm_all (lX0f K)⟩
theorem g17 (K : Nat → Nat) : gm_row K (m17 K) := ⟨by decide +kernel, rfl, w_1072, by decide, fun h => (nomatch h), fun _ _ h => gm_I_dec h, gm_all (lX0f K)⟩
theorem g18 (K : Nat → Nat) : gm_row K (m18 K) := ⟨by decide +kernel, rfl, w_1085, by decide, fun h => (nomatch h), fun _ _ h => gm_I_dec h, gm_all (lX0f K)⟩
theorem g19 (K : Nat → Nat) : gm_row K (m19 K) := ⟨by decide +kernel, rfl, w_1112, by decide, fun h => (nomatch h), fun _ _ h => gm_I_dec h, gm_all (lX0f K)⟩
theorem g20 (K : Nat → Nat) : gm_row K (m20 K) := ⟨by decide +kernel, rfl, w_151, by decide, fun _ => rfl, fun _ _ h => gm_I_dec h, gm_all (lX1t K)⟩
theorem g21 (K : Nat → Nat) : gm_row K (m21 K) := ⟨by decide +kernel, rfl, w_580, by decide, fun h => (nomatch h), fun _ _ h => gm_I_dec h, gm_all (lX1f K)⟩
theorem g22 (K : Nat → Nat) : gm_row K (m22 K) := ⟨by decide +kernel, rfl, w_538, by decide, fun h => (nomatch h), fun _ _ h => gm_I_dec h, gm_all (lX1f K)⟩
theorem g23 (K : Nat → Nat) : gm_row K (m23 K) := ⟨by decide +kernel, rfl, w_542, by decide, fun h => (nomatch h), fun _ _ h => gm_I_dec h, gm_all (lX1f K)⟩
theorem g24 (K : Nat → Nat) : gm_row K (m24 K) := ⟨by decide +kernel, rfl, w_532, by decide, fun h => (nomatch h), fun _ _ h => gm_I_dec h, gm_all (lX1f K)⟩
theorem g25 (K : Nat → Nat) : gm_row K (m25 K) := ⟨by decide +kernel, rfl, w_529, by decide, fun h => (nomatch h), fun _ _ h => gm_I_dec h, gm_all (lX1f K)⟩
theorem g26 (K : Nat → Nat) : gm_row K (m26 K) := ⟨by decide +kernel, rfl, w_145, by decide, fun _ => rfl, fun _ _ h => gm_I_dec h, gm_all (lX2t K)⟩
theorem g27 (K : Nat → Nat) : gm_row K (m27 K) := ⟨by decide +kernel, rfl, w_974, by decide, fun h => (nomatch h), fun _ _ h => gm_I_dec h, gm_all (lX2f K)⟩
theorem g28 (K : Nat → Nat) : gm_row K (m28 K) := ⟨by decide +kernel, rfl, w_525, by decide, fun h => (nomatch h), fun _ _ h => gm_I_dec h, gm_all (lX2f K)⟩
theorem g29 (K : Nat → Nat) : gm_row K (m29 K) := ⟨by decide +kernel, rfl, w_1032, by decide, fun h => (nomatch h), fun _ _ h => gm_I_dec h, gm_all (lX2f K)⟩
theorem g30 (K : Nat → Nat) : gm_row K (m30 K) := ⟨by decide +kernel, rfl, w_546, by decide, fun h => (nomatch h), fun _ _ h => gm_I_dec h, gm_all (lX2f K)⟩
theorem g31 (K : Nat → Nat) : gm_row K (m31 K) := ⟨by decide +kernel, rfl, w_550, by decide, fun h => (nomatch h), fun _ _ h => gm_I_dec h, gm_all (lX2f K)⟩
theorem g32 (K : Nat → Nat) : gm_row K (m32 K) := ⟨by decide +kernel, rfl, w_555, by decide, fun h => (nomatch h), fun _ _ h => gm_I_dec h, gm_all (lX2f K)⟩
theorem g33 (K : Nat → Nat) : gm_row K (m33 K) := ⟨by decide +kernel, rfl, w_564, by decide, fun h => (nomatch h), fun _ _ h => gm_I_dec h, gm_all (lX2f K)⟩
theorem g34 (K : Nat → Nat) : gm_row K (m34 K) := ⟨by decide +kernel, rfl, w_568, by decide, fun h => (nomatch h), fun _ _ h => gm_I_dec h, gm_all (lX2f K)⟩
theorem g35 (K : Nat → Nat) : gm_row K (m35 K) := ⟨by decide +kernel, rfl, w_572, by decide, fun h => (nomatch h), fun _ _ h => gm_I_dec h, gm_all (lX2f K)⟩
theorem g36 (K : Nat → Nat) : gm_row K (m36 K) := ⟨by decide +kernel, rfl, w_559, by decide, fun h => (nomatch h), fun _ _ h => gm_I_dec h, gm_all (lX2f K)⟩
theorem g37 (K : Nat → Nat) : gm_row K (m37 K) := ⟨by decide +kernel, rfl, w_576, by decide, fun h => (nomatch h), fun _ _ h => gm_I_dec h, gm_all (lX2f K)⟩
theorem g38 (K : Nat → Nat) : gm_row K (m38 K) := ⟨by decide +kernel, rfl, w_139, by decide, fun _ => rfl, fun _ _ h => gm_I_dec h, gm_all (lX3t K)⟩
theorem g39 (K : Nat → Nat) : gm_row K (m39 K) := ⟨by decide +kernel, rfl, w_462, by decide, fun h => (nomatch h), fun _ _ h => gm_I_dec h, gm_all (lX3f K)⟩
theorem g40 (K : Nat → Nat) : gm_row K (m40 K) := ⟨by decide +kernel, rfl, w_966, by decide, fun h => (nomatch h), fun _ _ h => gm_I_dec h, gm_all (lX3f K)⟩
theorem g41 (K : Nat → Nat) : gm_row K (m41 K) := ⟨by decide +kernel, rfl, w_521, by decide, fun h => (nomatch h), fun _ _ h => gm_I_dec h, gm_all (lX3f K)⟩
theorem g42 (K : Nat → Nat) : gm_row K (m42 K) := ⟨by decide +kernel, rfl, w_588, by decide, fun h => (nomatch h), fun _ _ h => gm_I_dec h, gm_all (lX3f K)⟩
theorem g43 (K : Nat → Nat) : gm_row K (m43 K) := ⟨by decide +kernel, rfl, w_509, by decide, fun h => (nomatch h), fun _ _ h => gm_I_dec h, gm_all (lX3f K)⟩
theorem g44 (K : Nat → Nat) : gm_row K (m44 K) := ⟨by decide +kernel, rfl, w_1028, by decide, fun h => (nomatch h), fun _ _ h => gm_I_dec h, gm_all (lX3f K)⟩
theorem g45 (K : Nat → Nat) : gm_row K (m45 K) := ⟨by decide +kernel, rfl, w_1024, by decide, fun h => (nomatch h), fun _ _ h => gm_I_dec h, gm_all (lX3f K)⟩
theorem g46 (K : Nat → Nat) : gm_row K (m46 K) := ⟨by decide +kernel, rfl, w_471, by decide, fun h => (nomatch h), fun _ _ h => gm_I_dec h, gm_all (lX3f K)⟩
theorem g47 (K : Nat → Nat) : gm_row K (m47 K) := ⟨by decide +kernel, rfl, w_476, by decide, fun h => (nomatch h), fun _ _ h => gm_I_dec h, gm_all (lX3f K)⟩
theorem g48 (K : Nat → Nat) : gm_row K (m48 K) := ⟨by decide +kernel, rfl, w_488, by decide, fun h => (nomatch h), fun _ _ h => gm_I_dec h, gm_all (lX3f K)⟩
theorem g49 (K : Nat → Nat) : gm_row K (m49 K) := ⟨by decide +kernel, rfl, w_901, by decide, fun _ => rfl, fun _ _ h => gm_I_dec h, gm_all (lX4t K)⟩
theorem g50 (K : Nat → Nat) : gm_row K (m50 K) := ⟨by decide +kernel, rfl, w_906, by decide, fun h => (nomatch h), fun _ _ h => gm_I_dec h, gm_all (lX4f K)⟩
theorem g51 (K : Nat → Nat) : gm_row K (m51 K) := ⟨by decide +kernel, rfl, w_909, by decide, fun h => (nomatch h), fun _ _ h => gm_I_dec h, gm_all (lX4f K)⟩
theorem g52 (K : Nat → Nat) : gm_row K (m52 K) := ⟨by decide +kernel, rfl, w_912, by decide, fun h => (nomatch h), fun _ _ h => gm_I_dec h, gm_all (lX4f K)⟩
theorem g53 (K : Nat → Nat) : gm_row K (m53 K) := ⟨by decide +kernel, rfl, w_584, by decide, fun h => (nomatch h), fun _ _ h => gm_I_dec h, gm_all (lX4f K)⟩
theorem g54 (K : Nat → Nat) : gm_row K (m54 K) := ⟨by decide +kernel, rfl, w_672, by decide, fun _ => rfl, fun _ _ h => gm_I_dec h, gm_all (lX5t K)⟩
theorem g55 (K : Nat → Nat) : gm_row K (m55 K) := ⟨by decide +kernel, rfl, w_366, by decide, fun h => (nomatch h), fun _ _ h => gm_I_dec h, gm_all (lX5f K)⟩
theorem g56 (K : Nat → Nat) : gm_row K (m56 K) := ⟨by decide +kernel, rfl, w_863, by decide, fun h => (nomatch h), fun _ _ h => gm_I_dec h, gm_all (lX5f K)⟩
theorem g57 (K : Nat → Nat) : gm_row K (m57 K) := ⟨by decide +kernel, rfl, w_926, by decide, fun h => (nomatch h), fun _ _ h => gm_I_dec h, gm_all (lX5f K)⟩
theorem g58 (K : Nat → Nat) : gm_row K (m58 K) := ⟨by decide +kernel, rfl, w_753, by decide, fun h => (nomatch h), fun _ _ h => gm_I_dec h, gm_all (lX5f K)⟩
theorem g59 (K : Nat → Nat) : gm_row K (m59 K) := ⟨by decide +kernel, rfl, w_942, by decide, fun h => (nomatch h), fun _ _ h => gm_I_dec h, gm_all (lX5f K)⟩
theorem g60 (K : Nat → Nat) : gm_row K (m60 K) := ⟨by decide +kernel, rfl, w_121, by decide, fun _ => rfl, fun _ _ h => gm_I_dec h, gm_all (lX6t K)⟩
theorem g61 (K : Nat → Nat) : gm_row K (m61 K) := ⟨by decide +kernel, rfl, w_766, by decide, fun h => (nomatch h), fun _ _ h => gm_I_dec h, gm_all (lX6f K)⟩
theorem g62 (K : Nat → Nat) : gm_row K (m62 K) := ⟨by decide +kernel, rfl, w_610, by decide, fun h => (nomatch h), fun _ _ h => gm_I_dec h, gm_all (lX6f K)⟩
theorem g63 (K : Nat → Nat) : gm_row K (m63 K) := ⟨by decide +kernel, rfl, w_659, by decide, fun h => (nomatch h), fun _ _ h => gm_I_dec h, gm_all (lX6f K)⟩
theorem g64 (K : Nat → Nat) : gm_row K (m64 K) := ⟨by decide +kernel, rfl, w_644, by decide, fun h => (nomatch h), fun _ _ h => gm_I_dec h, gm_all (lX6f K)⟩
theorem g65 (K : Nat → Nat) : gm_row K (m65 K) := ⟨by decide +kernel, rfl, w_741, by decide, fun h => (nomatch h), fun _ _ h => gm_I_dec h, gm_all (lX6f K)⟩
theorem g66 (K : Nat → Nat) : gm_row K (m66 K) := ⟨by decide +kernel, rfl, w_745, by decide, fun h => (nomatch h), fun _ _ h => gm_I_dec h, gm_all (lX6f K)⟩
theorem g67 (K : Nat → Nat) : gm_row K (m67 K) := ⟨by decide +kernel, rfl, w_749, by decide, fun h => (nomatch h), fun _ _ h => gm_I_dec h, gm_all (lX6f K)⟩
theorem g68 (K : Nat → Nat) : gm_row K (m68 K) := ⟨by decide +kernel, rfl, w_648, by decide, fun h => (nomatch h), fun _ _ h => gm_I_dec h, gm_all (lX6f K)⟩
theorem g69 (K : Nat → Nat) : gm_row K (m69 K) := ⟨by decide +kernel, rfl, w_663, by decide, fun h => (nomatch h), fun _ _ h => gm_I_dec h, gm_all (lX6f K)⟩
theorem g70 (K : Nat → Nat) : gm_row K (m70 K) := ⟨by decide +kernel, rfl, w_714, by decide, fun _ => rfl, fun _ _ h => gm_I_dec h, gm_all (lX7t K)⟩
theorem g71 (K : Nat → Nat) : gm_row K (m71 K) := ⟨by decide +kernel, rfl, w_758, by decide, fun h => (nomatch h), fun _ _ h => gm_I_dec h, gm_all (lX7f K)⟩
theorem g72 (K : Nat → Nat) : gm_row K (m72 K) := ⟨by decide +kernel, rfl, w_859, by decide, fun h => (nomatch h), fun _ _ h => gm_I_dec h, gm_all (lX7f K)⟩
theorem g73 (K : Nat → Nat) : gm_row K (m73 K) := ⟨by decide +kernel, rfl, w_873, by decide, fun h => (nomatch h), fun _ _ h => gm_I_dec h, gm_all (lX7f K)⟩
theorem g74 (K : Nat → Nat) : gm_row K (m74 K) := ⟨by decide +kernel, rfl, w_843, by decide, fun h => (nomatch h), fun _ _ h => gm_I_dec h, gm_all (lX7f K)⟩
theorem g75 (K : Nat → Nat) : gm_row K (m75 K) := ⟨by decide +kernel, rfl, w_847, by decide, fun h => (nomatch h), fun _ _ h => gm_I_dec h, gm_all (lX7f K)⟩
theorem g76 (K : Nat → Nat) : gm_row K (m76 K) := ⟨by decide +kernel, rfl, w_922, by decide, fun h => (nomatch h), fun _ _ h => gm_I_dec h, gm_all (lX7f K)⟩
theorem g77 (K : Nat → Nat) : gm_row K (m77 K) := ⟨by decide +kernel, rfl, w_930, by decide, fun h => (nomatch h), fun _ _ h => gm_I_dec h, gm_all (lX7f K)⟩
theorem g78 (K : Nat → Nat) : gm_row K (m78 K) := ⟨by decide +kernel, rfl, w_933, by decide, fun h => (nomatch h), fun _ _ h => gm_I_dec h, gm_all (lX7f K)⟩
theorem g79 (K : Nat → Nat) : gm_row K (m79 K) := ⟨by decide +kernel, rfl, w_936, by decide, fun h => (nomatch h), fun _ _ h => gm_I_dec h, gm_all (lX7f K)⟩
theorem g80 (K : Nat → Nat) : gm_row K (m80 K) := ⟨by decide +kernel, rfl, w_615, by decide, fun _ => rfl, fun _ _ h => gm_I_dec h, gm_all (lX8t K)⟩
theorem g81 (K : Nat → Nat) : gm_row K (m81 K) := ⟨by decide +kernel, rfl, w_762, by decide, fun h => (nomatch h), fun _ _ h => gm_I_dec h, gm_all (lX8f K)⟩
theorem g82 (K : Nat → Nat) : gm_row K (m82 K) := ⟨by decide +kernel, rfl, w_835, by decide, fun h => (nomatch h), fun _ _ h => gm_I_dec h, gm_all (lX8f K)⟩
theorem g83 (K : Nat → Nat) : gm_row K (m83 K) := ⟨by decide +kernel, rfl, w_839, by decide, fun h => (nomatch h), fun _ _ h => gm_I_dec h, gm_all (lX8f K)⟩
theorem g84 (K : Nat → Nat) : gm_row K (m84 K) := ⟨by decide +kernel, rfl, w_851, by decide, fun h => (nomatch h), fun _ _ h => gm_I_dec h, gm_all (lX8f K)⟩
theorem g85 (K : Nat → Nat) : gm_row K (m85 K) := ⟨by decide +kernel, rfl, w_855, by decide, fun h => (nomatch h), fun _ _ h => gm_I_dec h, gm_all (lX8f K)⟩
theorem g86 (K : Nat → Nat) : gm_row K (m86 K) := ⟨by decide +kernel, rfl, w_877, by decide, fun h => (nomatch h), fun _ _ h => gm_I_dec h, gm_all (lX8f K)⟩
theorem g87 (K : Nat → Nat) : gm_row K (m87 K) := ⟨by decide +kernel, rfl, w_881, by decide, fun h => (nomatch h), fun _ _ h => gm_I_dec h, gm_all (lX8f K)⟩
theorem g88 (K : Nat → Nat) : gm_row K (m88 K) := ⟨by decide +kernel, rfl, w_458, by decide, fun h => (nomatch h), fun _ _ h => gm_I_dec h, gm_all (lX9f K)⟩
theorem g89 (K : Nat → Nat) : gm_row K (m89 K) := ⟨by decide +kernel, rfl, w_869, by decide, fun h => (nomatch h), fun _ _ h => gm_I_dec h, gm_all (lX9f K)⟩
theorem g90 (K : Nat → Nat) : gm_row K (m90 K) := ⟨by decide +kernel, rfl, w_666, by decide, fun h => (nomatch h), fun _ _ h => gm_I_dec h, gm_all (lX9f K)⟩
theorem g91 (K : Nat → Nat) : gm_row K (m91 K) := ⟨by decide +kernel, rfl, w_866, by decide, fun h => (nomatch h), fun _ _ h => gm_I_dec h, gm_all (lX9f K)⟩
theorem g92 (K : Nat → Nat) : gm_row K (m92 K) := ⟨by decide +kernel, rfl, w_945, by decide, fun h => (nomatch h), fun _ _ h => gm_I_dec h, gm_all (lX9f K)⟩
theorem g93 (K : Nat → Nat) : gm_row K (m93 K) := ⟨by decide +kernel, rfl, w_501, by decide, fun h => (nomatch h), fun _ _ h => gm_I_dec h, gm_all (lX9f K)⟩
theorem g94 (K : Nat → Nat) : gm_row K (m94 K) := ⟨by decide +kernel, rfl, w_236, by decide, fun _ => rfl, fun _ _ h => gm_I_dec h, gm_all (lX10t K)⟩
theorem g95 (K : Nat → Nat) : gm_row K (m95 K) := ⟨by decide +kernel, rfl, w_492, by decide, fun h => (nomatch h), fun _ _ h => gm_I_dec h, gm_all (lX10f K)⟩
theorem g96 (K : Nat → Nat) : gm_row K (m96 K) := ⟨by decide +kernel, rfl, w_970, by decide, fun h => (nomatch h), fun _ _ h => gm_I_dec h, gm_all (lX10f K)⟩
theorem g97 (K : Nat → Nat) : gm_row K (m97 K) := ⟨by decide +kernel, rfl, w_513, by decide, fun h => (nomatch h), fun _ _ h => gm_I_dec h, gm_all (lX10f K)⟩
theorem g98 (K : Nat → Nat) : gm_row K (m98 K) := ⟨by decide +kernel, rfl, w_1064, by decide, fun h => (nomatch h), fun _ _ h => gm_I_dec h, gm_all (lX10f K)⟩
theorem g99 (K : Nat → Nat) : gm_row K (m99 K) := ⟨by decide +kernel, rfl, w_596, by decide, fun h => (nomatch h), fun _ _ h => gm_I_dec h, gm_all (lX10f K)⟩
theorem g100 (K : Nat → Nat) : gm_row K (m100 K) := ⟨by decide +kernel, rfl, w_978, by decide, fun h => (nomatch h), fun _ _ h => gm_I_dec h, gm_all (lX10f K)⟩
theorem g101 (K : Nat → Nat) : gm_row K (m101 K) := ⟨by decide +kernel, rfl, w_592, by decide, fun h => (nomatch h), fun _ _ h => gm_I_dec h, gm_all (lX10f K)⟩
theorem g102 (K : Nat → Nat) : gm_row K (m102 K) := ⟨by decide +kernel, rfl, w_113, by decide, fun _ => rfl, fun _ _ h => gm_I_dec h, gm_all (lX11t K)⟩
theorem g103 (K : Nat → Nat) : gm_row K (m103 K) := ⟨by decide +kernel, rfl, w_347, by decide, fun h => (nomatch h), fun _ _ h => gm_I_dec h, gm_all (lX11f K)⟩
theorem g104 (K : Nat → Nat) : gm_row K (m104 K) := ⟨by decide +kernel, rfl, w_351, by decide, fun h => (nomatch h), fun _ _ h => gm_I_dec h, gm_all (lX11f K)⟩
theorem g105 (K : Nat → Nat) : gm_row K (m105 K) := ⟨by decide +kernel, rfl, w_606, by decide, fun h => (nomatch h), fun _ _ h => gm_I_dec h, gm_all (lX11f K)⟩
theorem g106 (K : Nat → Nat) : gm_row K (m106 K) := ⟨by decide +kernel, rfl, w_355, by decide, fun h => (nomatch h), fun _ _ h => gm_I_dec h, gm_all (lX11f K)⟩
theorem g107 (K : Nat → Nat) : gm_row K (m107 K) := ⟨by decide +kernel, rfl, w_359, by decide, fun h => (nomatch h), fun _ _ h => gm_I_dec h, gm_all (lX11f K)⟩
theorem g108 (K : Nat → Nat) : gm_row K (m108 K) := ⟨by decide +kernel, rfl, w_363, by decide, fun h => (nomatch h), fun _ _ h => gm_I_dec h, gm_all (lX11f K)⟩
theorem g109 (K : Nat → Nat) : gm_row K (m109 K) := ⟨by decide +kernel, rfl, w_467, by decide, fun h => (nomatch h), fun _ _ h => gm_I_dec h, gm_all (lX11f K)⟩
theorem g110 (K : Nat → Nat) : gm_row K (m110 K) := ⟨by decide +kernel, rfl, w_480, by decide, fun h => (nomatch h), fun _ _ h => gm_I_dec h, gm_all (lX11f K)⟩
theorem g111 (K : Nat → Nat) : gm_row K (m111 K) := ⟨by decide +kernel, rfl, w_484, by decide, fun h => (nomatch h), fun _ _ h => gm_I_dec h, gm_all (lX11f K)⟩
theorem g112 (K : Nat → Nat) : gm_row K (m112 K) := ⟨by decide +kernel, rfl, w_497, by decide, fun h => (nomatch h), fun _ _ h => gm_I_dec h, gm_all (lX11f K)⟩
theorem g113 (K : Nat → Nat) : gm_row K (m113 K) := ⟨by decide +kernel, rfl, w_1005, by decide, fun h => (nomatch h), fun _ _ h => gm_I_dec h, gm_all (lX11f K)⟩
theorem g114 (K : Nat → Nat) : gm_row K (m114 K) := ⟨by decide +kernel, rfl, w_505, by decide, fun h => (nomatch h), fun _ _ h => gm_I_dec h, gm_all (lX11f K)⟩
theorem g115 (K : Nat → Nat) : gm_row K (m115 K) := ⟨by decide +kernel, rfl, w_1039, by decide, fun h => (nomatch h), fun _ _ h => gm_I_dec h, gm_all (lX11f K)⟩
theorem g116 (K : Nat → Nat) : gm_row K (m116 K) := ⟨by decide +kernel, rfl, w_1081, by decide, fun h => (nomatch h), fun _ _ h => gm_I_dec h, gm_all (lX11f K)⟩
theorem g117 (K : Nat → Nat) : gm_row K (m117 K) := ⟨by decide +kernel, rfl, w_1093, by decide, fun h => (nomatch h), fun _ _ h => gm_I_dec h, gm_all (lX11f K)⟩
theorem g118 (K : Nat → Nat) : gm_row K (m118 K) := ⟨by decide +kernel, rfl, w_1117, by decide, fun _ => rfl, fun _ _ h => gm_I_dec h, gm_all (lX12t K)⟩
theorem g119 (K : Nat → Nat) : gm_row K (m119 K) := ⟨by decide +kernel, rfl, w_1273, by decide, fun h => (nomatch h), fun _ _ h => gm_I_dec h, gm_all (lX12f K)⟩
theorem g120 (K : Nat → Nat) : gm_row K (m120 K) := ⟨by decide +kernel, rfl, w_1510, by decide, fun h => (nomatch h), fun _ _ h => gm_I_dec h, gm_all (lX12f K)⟩
theorem g121 (K : Nat → Nat) : gm_row K (m121 K) := ⟨by decide +kernel, rfl, w_1277, by decide, fun h => (nomatch h), fun _ _ h => gm_I_dec h, gm_all (lX12f K)⟩
theorem g122 (K : Nat → Nat) : gm_row K (m122 K) := ⟨by decide +kernel, rfl, w_1282, by decide, fun h => (nomatch h), fun _ _ h => gm_I_dec h, gm_all (lX12f K)⟩
theorem g123 (K : Nat → Nat) : gm_row K (m123 K) := ⟨by decide +kernel, rfl, w_1310, by decide, fun h => (nomatch h), fun _ _ h => gm_I_dec h, gm_all (lX12f K)⟩
theorem g124 (K : Nat → Nat) : gm_row K (m124 K) := ⟨by decide +kernel, rfl, w_1316, by decide, fun h => (nomatch h), fun _ _ h => gm_I_dec h, gm_all (lX12f K)⟩
theorem g125 (K : Nat → Nat) : gm_row K (m125 K) := ⟨by decide +kernel, rfl, w_1330, by decide, fun h => (nomatch h), fun _ _ h => gm_I_dec h, gm_all (lX12f K)⟩
theorem g126 (K : Nat → Nat) : gm_row K (m126 K) := ⟨by decide +kernel, rfl, w_1327, by decide, fun h => (nomatch h), fun _ _ h => gm_I_dec h, gm_all (lX12f K)⟩
theorem g127 (K : Nat → Nat) : gm_row K (m127 K) := ⟨by decide +kernel, rfl, w_1313, by decide, fun h => (nomatch h), fun _ _ h => gm_I_dec h, gm_all (lX12f K)⟩
theorem g128 (K : Nat → Nat) : gm_row K (m128 K) := ⟨by decide +kernel, rfl, w_1320, by decide, fun h => (nomatch h), fun _ _ h => gm_I_dec h, gm_all (lX12f K)⟩
theorem g129 (K : Nat → Nat) : gm_row K (m129 K) := ⟨by decide +kernel, rfl, w_1324, by decide, fun h => (nomatch h), fun _ _ h => gm_I_dec h, gm_all (lX12f K)⟩
theorem g130 (K : Nat → Nat) : gm_row K (m130 K) := ⟨by decide +kernel, rfl, w_1306, by decide, fun h => (nomatch h), fun _ _ h => gm_I_dec h, gm_all (lX12f K)⟩
theorem g131 (K : Nat → Nat) : gm_row K (m131 K) := ⟨by decide +kernel, rfl, w_1338, by decide, fun h => (nomatch h), fun _ _ h => gm_I_dec h, gm_all (lX12f K)⟩
theorem g132 (K : Nat → Nat) : gm_row K (m132 K) := ⟨by decide +kernel, rfl, w_1334, by decide, fun h => (nomatch h), fun _ _ h => gm_I_dec h, gm_all (lX12f K)⟩
theorem g133 (K : Nat → Nat) : gm_row K (m133 K) := ⟨by decide +kernel, rfl, w_1302, by decide, fun h => (nomatch h), fun _ _ h => gm_I_dec h, gm_all (lX12f K)⟩
theorem g134 (K : Nat → Nat) : gm_row K (m134 K) := ⟨by decide +kernel, rfl, w_1298, by decide, fun h => (nomatch h), fun _ _ h => gm_I_dec h, gm_all (lX12f K)⟩
theorem g135 (K : Nat → Nat) : gm_row K (m135 K) := ⟨by decide +kernel, rfl, w_1350, by decide, fun h => (nomatch h), fun _ _ h => gm_I_dec h, gm_all (lX12f K)⟩
theorem g136 (K : Nat → Nat) : gm_row K (m136 K) := ⟨by decide +kernel, rfl, w_1346, by decide, fun h => (nomatch h), fun _ _ h => gm_I_dec h, gm_all (lX12f K)⟩
theorem g137 (K : Nat → Nat) : gm_row K (m137 K) := ⟨by decide +kernel, rfl, w_1342, by decide, fun h => (nomatch h), fun _ _ h => gm_I_dec h, gm_all (lX12f K)⟩
theorem g138 (K : Nat → Nat) : gm_row K (m138 K) := ⟨by decide +kernel, rfl, w_1354, by decide, fun h => (nomatch h), fun _ _ h => gm_I_dec h, gm_all (lX12f K)⟩
theorem g139 (K : Nat → Nat) : gm_row K (m139 K) := ⟨by decide +kernel, rfl, w_1362, by decide, fun h => (nomatch h), fun _ _ h => gm_I_dec h, gm_all (lX12f K)⟩
theorem g140 (K : Nat → Nat) : gm_row K (m140 K) := ⟨by decide +kernel, rfl, w_1358, by decide, fun h => (nomatch h), fun _ _ h => gm_I_dec h, gm_all (lX12f K)⟩
theorem g141 (K : Nat → Nat) : gm_row K (m141 K) := ⟨by decide +kernel, rfl, w_1366, by decide, fun h => (nomatch h), fun _ _ h => gm_I_dec h, gm_all (lX12f K)⟩
theorem g142 (K : Nat → Nat) : gm_row K (m142 K) := ⟨by decide +kernel, rfl, w_1294, by decide, fun h => (nomatch h), fun _ _ h => gm_I_dec h, gm_all (lX12f K)⟩
theorem g143 (K : Nat → Nat) : gm_row K (m143 K) := ⟨by decide +kernel, rfl, w_1370, by decide, fun h => (nomatch h), fun _ _ h => gm_I_dec h, gm_all (lX12f K)⟩
theorem g144 (K : Nat → Nat) : gm_row K (m144 K) := ⟨by decide +kernel, rfl, w_1416, by decide, fun h => (nomatch h), fun _ _ h => gm_I_dec h, gm_all (lX12f K)⟩
theorem g145 (K : Nat → Nat) : gm_row K (m145 K) := ⟨by decide +kernel, rfl, w_1420, by decide, fun h => (nomatch h), fun _ _ h => gm_I_dec h, gm_all (lX12f K)⟩
theorem g146 (K : Nat → Nat) : gm_row K (m146 K) := ⟨by decide +kernel, rfl, w_1435, by decide, fun h => (nomatch h), fun _ _ h => gm_I_dec h, gm_all (lX12f K)⟩
theorem g147 (K : Nat → Nat) : gm_row K (m147 K) := ⟨by decide +kernel, rfl, w_1438, by decide, fun h => (nomatch h), fun _ _ h => gm_I_dec h, gm_all (lX12f K)⟩
theorem g148 (K : Nat → Nat) : gm_row K (m148 K) := ⟨by decide +kernel, rfl, w_1432, by decide, fun h => (nomatch h), fun _ _ h => gm_I_dec h, gm_all (lX12f K)⟩
theorem g149 (K : Nat → Nat) : gm_row K (m149 K) := ⟨by decide +kernel, rfl, w_1428, by decide, fun h => (nomatch h), fun _ _ h => gm_I_dec h, gm_all (lX12f K)⟩
theorem g150 (K : Nat → Nat) : gm_row K (m150 K) := ⟨by decide +kernel, rfl, w_1424, by decide, fun h => (nomatch h), fun _ _ h => gm_I_dec h, gm_all (lX12f K)⟩
theorem g151 (K : Nat → Nat) : gm_row K (m151 K) := ⟨by decide +kernel, rfl, w_1411, by decide, fun h => (nomatch h), fun _ _ h => gm_I_dec h, gm_all (lX12f K)⟩
theorem g152 (K : Nat → Nat) : gm_row K (m152 K) := ⟨by decide +kernel, rfl, w_1407, by decide, fun h => (nomatch h), fun _ _ h => gm_I_dec h, gm_all (lX12f K)⟩
theorem g153 (K : Nat → Nat) : gm_row K (m153 K) := ⟨by decide +kernel, rfl, w_1403, by decide, fun h => (nomatch h), fun _ _ h => gm_I_dec h, gm_all (lX12f K)⟩
theorem g154 (K : Nat → Nat) : gm_row K (m154 K) := ⟨by decide +kernel, rfl, w_1399, by decide, fun h => (nomatch h), fun _ _ h => gm_I_dec h, gm_all (lX12f K)⟩
theorem g155 (K : Nat → Nat) : gm_row K (m155 K) := ⟨by decide +kernel, rfl, w_1390, by decide, fun h => (nomatch h), fun _ _ h => gm_I_dec h, gm_all (lX12f K)⟩
theorem g156 (K : Nat → Nat) : gm_row K (m156 K) := ⟨by decide +kernel, rfl, w_1394, by decide, fun h => (nomatch h), fun _ _ h => gm_I_dec h, gm_all (lX12f K)⟩
theorem g157 (K : Nat → Nat) : gm_row K (m157 K) := ⟨by decide +kernel, rfl, w_1386, by decide, fun h => (nomatch h), fun _ _ h => gm_I_dec h, gm_all (lX12f K)⟩
theorem g158 (K : Nat → Nat) : gm_row K (m158 K) := ⟨by decide +kernel, rfl, w_1382, by decide, fun h => (nomatch h), fun _ _ h => gm_I_dec h, gm_all (lX12f K)⟩
theorem g159 (K : Nat → Nat) : gm_row K (m159 K) := ⟨by decide +kernel, rfl, w_1378, by decide, fun h => (nomatch h), fun _ _ h => gm_I_dec h, gm_all (lX12f K)⟩
theorem g160 (K : Nat → Nat) : gm_row K (m160 K) := ⟨by decide +kernel, rfl, w_1450, by decide, fun h => (nomatch h), fun _ _ h => gm_I_dec h, gm_all (lX12f K)⟩
theorem g161 (K : Nat → Nat) : gm_row K (m161 K) := ⟨by decide +kernel, rfl, w_1458, by decide, fun h => (nomatch h), fun _ _ h => gm_I_dec h, gm_all (lX12f K)⟩
theorem g162 (K : Nat → Nat) : gm_row K (m162 K) := ⟨by decide +kernel, rfl, w_1442, by decide, fun h => (nomatch h), fun _ _ h => gm_I_dec h, gm_all (lX12f K)⟩
theorem g163 (K : Nat → Nat) : gm_row K (m163 K) := ⟨by decide +kernel, rfl, w_1446, by decide, fun h => (nomatch h), fun _ _ h => gm_I_dec h, gm_all (lX12f K)⟩
theorem g164 (K : Nat → Nat) : gm_row K (m164 K) := ⟨by decide +kernel, rfl, w_1514, by decide, fun h => (nomatch h), fun _ _ h => gm_I_dec h, gm_all (lX12f K)⟩
theorem g165 (K : Nat → Nat) : gm_row K (m165 K) := ⟨by decide +kernel, rfl, w_1290, by decide, fun h => (nomatch h), fun _ _ h => gm_I_dec h, gm_all (lX12f K)⟩
theorem g166 (K : Nat → Nat) : gm_row K (m166 K) := ⟨by decide +kernel, rfl, w_1374, by decide, fun h => (nomatch h), fun _ _ h => gm_I_dec h, gm_all (lX12f K)⟩
theorem g167 (K : Nat → Nat) : gm_row K (m167 K) := ⟨by decide +kernel, rfl, w_1286, by decide, fun h => (nomatch h), fun _ _ h => gm_I_dec h, gm_all (lX12f K)⟩
theorem g168 (K : Nat → Nat) : gm_row K (m168 K) := ⟨by decide +kernel, rfl, w_1454, by decide, fun h => (nomatch h), fun _ _ h => gm_I_dec h, gm_all (lX12f K)⟩
theorem g169 (K : Nat → Nat) : gm_row K (m169 K) := ⟨by decide +kernel, rfl, w_1462, by decide, fun h => (nomatch h), fun _ _ h => gm_I_dec h, gm_all (lX12f K)⟩
theorem g170 (K : Nat → Nat) : gm_row K (m170 K) := ⟨by decide +kernel, rfl, w_1478, by decide, fun h => (nomatch h), fun _ _ h => gm_I_dec h, gm_all (lX12f K)⟩
theorem g171 (K : Nat → Nat) : gm_row K (m171 K) := ⟨by decide +kernel, rfl, w_1482, by decide, fun h => (nomatch h), fun _ _ h => gm_I_dec h, gm_all (lX12f K)⟩
theorem g172 (K : Nat → Nat) : gm_row K (m172 K) := ⟨by decide +kernel, rfl, w_1490, by decide, fun h => (nomatch h), fun _ _ h => gm_I_dec h, gm_all (lX12f K)⟩
theorem g173 (K : Nat → Nat) : gm_row K (m173 K) := ⟨by decide +kernel, rfl, w_1498, by decide, fun h => (nomatch h), fun _ _ h => gm_I_dec h, gm_all (lX12f K)⟩
theorem g174 (K : Nat → Nat) : gm_row K (m174 K) := ⟨by decide +kernel, rfl, w_1466, by decide, fun h => (nomatch h), fun _ _ h => gm_I_dec h, gm_all (lX12f K)⟩
theorem g175 (K : Nat → Nat) : gm_row K (m175 K) := ⟨by decide +kernel, rfl, w_1470, by decide, fun h => (nomatch h), fun _ _ h => gm_I_dec h, gm_all (lX12f K)⟩
theorem g176 (K : Nat → Nat) : gm_row K (m176 K) := ⟨by decide +kernel, rfl, w_1474, by decide, fun h => (nomatch h), fun _ _ h => gm_I_dec h, gm_all (lX12f K)⟩
theorem g177 (K : Nat → Nat) : gm_row K (m177 K) := ⟨by decide +kernel, rfl, w_1486, by decide, fun h => (nomatch h), fun _ _ h => gm_I_dec h, gm_all (lX12f K)⟩
theorem g178 (K : Nat → Nat) : gm_row K (m178 K) := ⟨by decide +kernel, rfl, w_1494, by decide, fun h => (nomatch h), fun _ _ h => gm_I_dec h, gm_all (lX12f K)⟩
theorem g179 (K : Nat → Nat) : gm_row K (m179 K) := ⟨by decide +kernel, rfl, w_1502, by decide, fun h => (nomatch h), fun _ _ h => gm_I_dec h, gm_all (lX12f K)⟩
theorem g180 (K : Nat → Nat) : gm_row K (m180 K) := ⟨by decide +kernel, rfl, w_1506, by decide, fun h => (nomatch h), fun _ _ h => gm_I_dec h, gm_all (lX12f K)⟩
theorem g181 (K : Nat → Nat) : gm_row K (m181 K) := ⟨by decide +kernel, rfl, w_1518, by decide, fun h => (nomatch h), fun _ _ h => gm_I_dec h, gm_all (lX12f K)⟩
theorem g182 (K : Nat → Nat) : gm_row K (m182 K) := ⟨by decide +kernel, rfl, w_1538, by decide, fun h => (nomatch h), fun _ _ h => gm_I_dec h, gm_all (lX12f K)⟩
theorem g183 (K : Nat → Nat) : gm_row K (m183 K) := ⟨by decide +kernel, rfl, w_1530, by decide, fun h => (nomatch h), fun _ _ h => gm_I_dec h, gm_all (lX12f K)⟩
theorem g184 (K : Nat → Nat) : gm_row K (m184 K) := ⟨by decide +kernel, rfl, w_1534, by decide, fun h => (nomatch h), fun _ _ h => gm_I_dec h, gm_all (lX12f K)⟩
theorem g185 (K : Nat → Nat) : gm_row K (m185 K) := ⟨by decide +kernel, rfl, w_1542, by decide, fun h => (nomatch h), fun _ _ h => gm_I_dec h, gm_all (lX12f K)⟩
theorem g186 (K : Nat → Nat) : gm_row K (m186 K) := ⟨by decide +kernel, rfl, w_1526, by decide, fun h => (nomatch h), fun _ _ h => gm_I_dec h, gm_all (lX12f K)⟩
theorem g187 (K : Nat → Nat) : gm_row K (m187 K) := ⟨by decide +kernel, rfl, w_1522, by decide, fun h => (nomatch h), fun _ _ h => gm_I_dec h, gm_all (lX12f K)⟩
theorem g188 (K : Nat → Nat) : gm_row K (m188 K) := ⟨by decide +kernel, rfl, w_1550, by decide, fun h => (nomatch h), fun _ _ h => gm_I_dec h, gm_all (lX12f K)⟩
theorem g189 (K : Nat → Nat) : gm_row K (m189 K) := ⟨by decide +kernel, rfl, w_1546, by decide, fun h => (nomatch h), fun _ _ h => gm_I_dec h, gm_all (lX12f K)⟩
theorem g190 (K : Nat → Nat) : gm_row K (m190 K) := ⟨by decide +kernel, rfl, w_1554, by decide, fun h => (nomatch h), fun _ _ h => gm_I_dec h, gm_all (lX12f K)⟩
theorem g191 (K : Nat → Nat) : gm_row K (m191 K) := ⟨by decide +kernel, rfl, w_915, by decide, fun h => (nomatch h), fun _ _ h => gm_I_dec h, gm_all (lJ6f K)⟩
theorem g192 (K : Nat → Nat) : gm_row K (m192 K) := ⟨by decide +kernel, rfl, w_655, by decide, fun h => (nomatch h), fun _ _ h => gm_I_dec h, gm_none⟩
set_option maxRecDepth 100000 in
set_option maxHeartbeats 4000000 in
theorem ra_good (K : Nat → Nat) : gm_good vwCl ra_Tg ra_Ns ra_As (ra_Zs K) (ra_Ss K) (ra_mt K) := by
  refine ⟨fun ty n x h => ?_, fun mi own y cc nL ret I lk ini h => ?_⟩
  · cases ty <;> simp only [gm_zero, reduceCtorEq] at h
    all_goals first | exact w_134 | exact w_133 | exact w_321 | exact w_962
  · have key : ∀ r, ra_mt K mi = some r → gm_row K r := by
      intro r hr
      unfold ra_mt at hr
      split at hr
      · cases hr; exact g10 K
      · cases hr; exact g11 K
      · cases hr; exact g12 K
      · cases hr; exact g13 K
      · cases hr; exact g14 K
      · cases hr; exact g15 K
      · cases hr; exact g16 K
      · cases hr; exact g17 K
      · cases hr; exact g18 K
      · cases hr; exact g19 K
      · cases hr; exact g20 K
      · cases hr; exact g21 K
      · cases hr; exact g22 K
      · cases hr; exact g23 K
      · cases hr; exact g24 K
      · cases hr; exact g25 K
      · cases hr; exact g26 K
      · cases hr; exact g27 K
      · cases hr; exact g28 K
      · cases hr; exact g29 K
      · cases hr; exact g30 K
      · cases hr; exact g31 K
      · cases hr; exact g32 K
      · cases hr; exact g33 K
      · cases hr; exact g34 K
      · cases hr; exact g35 K
      · cases hr; exact g36 K
      · cases hr; exact g37 K
      · cases hr; exact g38 K
      · cases hr; exact g39 K
      · cases hr; exact g40 K
      · cases hr; exact g41 K
      · cases hr; exact g42 K
      · cases hr; exact g43 K
      · cases hr; exact g44 K
      · cases hr; exact g45 K
      · cases hr; exact g46 K
      · cases hr; exact g47 K
      · cases hr; exact g48 K
      · cases hr; exact g49 K
      · cases hr; exact g50 K
      · cases hr; exact g51 K
      · cases hr; exact g52 K
      · cases hr; exact g53 K
      · cases hr; exact g54 K
      · cases hr; exact g55 K
      · cases hr; exact g56 K
      · cases hr; exact g57 K
      · cases hr; exact g58 K
      · cases hr; exact g59 K
      · cases hr; exact g60 K
      · cases hr; exact g61 K
      · cases hr; exact g62 K
      · cases hr; exact g63 K
      · cases hr; exact g64 K
      · cases hr; exact g65 K
      · cases hr; exact g66 K
      · cases hr; exact g67 K
      · cases hr; exact g68 K
      · cases hr; exact g69 K
      · cases hr; exact g70 K
      · cases hr; exact g71 K
      · cases hr; exact g72 K
      · cases hr; exact g73 K
      · cases hr; exact g74 K
      · cases hr; exact g75 K
      · cases hr; exact g76 K
      · cases hr; exact g77 K
      · cases hr; exact g78 K
      · cases hr; exact g79 K
      · cases hr; exact g80 K
      · cases hr; exact g81 K
      · cases hr; exact g82 K
      · cases hr; exact g83 K
      · cases hr; exact g84 K
      · cases hr; exact g85 K
      · cases hr; exact g86 K
      · cases hr; exact g87 K
      · cases hr; exact g88 K
      · cases hr; exact g89 K
      · cases hr; exact g90 K
      · cases hr; exact g91 K
      · cases hr; exact g92 K
      · cases hr; exact g93 K
      · cases hr; exact g94 K
      · cases hr; exact g95 K
      · cases hr; exact g96 K
      · cases hr; exact g97 K
      · cases hr; exact g98 K
      · cases hr; exact g99 K
      · cases hr; exact g100 K
      · cases hr; exact g101 K
      · cases hr; exact g102 K
      · cases hr; exact g103 K
      · cases hr; exact g104 K
      · cases hr; exact g105 K
      · cases hr; exact g106 K
      · cases hr; exact g107 K
      · cases hr; exact g108 K
      · cases hr; exact g109 K
      · cases hr; exact g110 K
      · cases hr; exact g111 K
      · cases hr; exact g112 K
      · cases hr; exact g113 K
      · cases hr; exact g114 K
      · cases hr; exact g115 K
      · cases hr; exact g116 K
      · cases hr; exact g117 K
      · cases hr; exact g118 K
      · cases hr; exact g119 K
      · cases hr; exact g120 K
      · cases hr; exact g121 K
      · cases hr; exact g122 K
      · cases hr; exact g123 K
      · cases hr; exact g124 K
      · cases hr; exact g125 K
      · cases hr; exact g126 K
      · cases hr; exact g127 K
      · cases hr; exact g128 K
      · cases hr; exact g129 K
      · cases hr; exact g130 K
      · cases hr; exact g131 K
      · cases hr; exact g132 K
      · cases hr; exact g133 K
      · cases hr; exact g134 K
      · cases hr; exact g135 K
      · cases hr; exact g136 K
      · cases hr; exact g137 K
      · cases hr; exact g138 K
      · cases hr; exact g139 K
      · cases hr; exact g140 K
      · cases hr; exact g141 K
      · cases hr; exact g142 K
      · cases hr; exact g143 K
      · cases hr; exact g144 K
      · cases hr; exact g145 K
      · cases hr; exact g146 K
      · cases hr; exact g147 K
      · cases hr; exact g148 K
      · cases hr; exact g149 K
      · cases hr; exact g150 K
      · cases hr; exact g151 K
      · cases hr; exact g152 K
      · cases hr; exact g153 K
      · cases hr; exact g154 K
      · cases hr; exact g155 K
      · cases hr; exact g156 K
      · cases hr; exact g157 K
      · cases hr; exact g158 K
      · cases hr; exact g159 K
      · cases hr; exact g160 K
      · cases hr; exact g161 K
      · cases hr; exact g162 K
      · cases hr; exact g163 K
      · cases hr; exact g164 K
      · cases hr; exact g165 K
      · cases hr; exact g166 K
      · cases hr; exact g167 K
      · cases hr; exact g168 K
      · cases hr; exact g169 K
      · cases hr; exact g170 K
      · cases hr; exact g171 K
      · cases hr; exact g172 K
      · cases hr; exact g173 K
      · cases hr; exact g174 K
      · cases hr; exact g175 K
      · cases hr; exact g176 K
      · cases hr; exact g177 K
      · cases hr; exact g178 K
      · cases hr; exact g179 K
      · cases hr; exact g180 K
      · cases hr; exact g181 K
      · cases hr; exact g182 K
      · cases hr; exact g183 K
      · cases hr; exact g184 K
      · cases hr; exact g185 K
      · cases hr; exact g186 K
      · cases hr; exact g187 K
      · cases hr; exact g188 K
      · cases hr; exact g189 K
      · cases hr; exact g190 K
      · cases hr; exact g191 K
      · cases hr; exact g192 K
      · cases hr
    exact key _ h
