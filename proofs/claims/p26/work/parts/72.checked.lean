def zq (q : (List zE × Nat × Nat) × zI5) : Bool := zmchk q.1 q.2
theorem zk_0 : List.all (List.take 19 (zMT.zip zMI)) zq = true := by decide +kernel
theorem zk_1 : List.all (List.take 19 (List.drop 19 (zMT.zip zMI))) zq = true := by decide +kernel
theorem zk_2 : List.all (List.take 19 (List.drop 19 (List.drop 19 (zMT.zip zMI)))) zq = true := by decide +kernel
theorem zk_3 : List.all (List.take 19 (List.drop 19 (List.drop 19 (List.drop 19 (zMT.zip zMI))))) zq = true := by decide +kernel
theorem zk_4 : List.all (List.take 19 (List.drop 19 (List.drop 19 (List.drop 19 (List.drop 19 (zMT.zip zMI)))))) zq = true := by decide +kernel
theorem zk_5 : List.all (List.take 19 (List.drop 19 (List.drop 19 (List.drop 19 (List.drop 19 (List.drop 19 (zMT.zip zMI))))))) zq = true := by decide +kernel
theorem zk_6 : List.all (List.take 19 (List.drop 19 (List.drop 19 (List.drop 19 (List.drop 19 (List.drop 19 (List.drop 19 (zMT.zip zMI)))))))) zq = true := by decide +kernel
theorem zk_7 : List.all (List.take 18 (List.drop 19 (List.drop 19 (List.drop 19 (List.drop 19 (List.drop 19 (List.drop 19 (List.drop 19 (zMT.zip zMI))))))))) zq = true := by decide +kernel
