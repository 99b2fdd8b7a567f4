theorem law_run {G : hz_G} (hL : G.2.2.2.2.2.1 ≤ 3072) : zRun G MW_law 18 [(0, .retAddr 0), (1, .ref 0), (2, .ref 29), (3, .int (0 : Int32))] [] (hz_σ1, false) (fun r _ => r = some (.int 1)) := by
  sorry
