section MOF
variable {h : Hp} {t : Nat} {ρ A : Nat → Nat}
theorem mI900 (h : Hp) (t : Nat) (ρ : Nat → Nat) (m : Mo) : (mput h t ρ m).I 900 t = m.1 900 := mput_I h t ρ m 900
theorem pI900 (h : Hp) (t : Nat) (ρ : Nat → Nat) (m : Mo) (v : Int32) : (mput h t ρ m).sI 900 t v = mput h t ρ (up1 m.1 900 v, m.2) := mput_sI h t ρ m 900 v
theorem mI901 (h : Hp) (t : Nat) (ρ : Nat → Nat) (m : Mo) : (mput h t ρ m).I 901 t = m.1 901 := mput_I h t ρ m 901
theorem pI901 (h : Hp) (t : Nat) (ρ : Nat → Nat) (m : Mo) (v : Int32) : (mput h t ρ m).sI 901 t v = mput h t ρ (up1 m.1 901 v, m.2) := mput_sI h t ρ m 901 v
theorem mI902 (h : Hp) (t : Nat) (ρ : Nat → Nat) (m : Mo) : (mput h t ρ m).I 902 t = m.1 902 := mput_I h t ρ m 902
theorem pI902 (h : Hp) (t : Nat) (ρ : Nat → Nat) (m : Mo) (v : Int32) : (mput h t ρ m).sI 902 t v = mput h t ρ (up1 m.1 902 v, m.2) := mput_sI h t ρ m 902 v
theorem mI903 (h : Hp) (t : Nat) (ρ : Nat → Nat) (m : Mo) : (mput h t ρ m).I 903 t = m.1 903 := mput_I h t ρ m 903
theorem pI903 (h : Hp) (t : Nat) (ρ : Nat → Nat) (m : Mo) (v : Int32) : (mput h t ρ m).sI 903 t v = mput h t ρ (up1 m.1 903 v, m.2) := mput_sI h t ρ m 903 v
theorem mA904 (hS : MS h t ρ A) (m : Mo) : (mput h t ρ m).AI (A 904) = m.2 904 := mput_AI hS m 904
theorem pA904 (hS : MS h t ρ A) (m : Mo) (i : Nat) (v : Int32) : (mput h t ρ m).sAI (A 904) i v = mput h t ρ (m.1, up2 m.2 904 i v) := mput_sAI hS m 904 i v
theorem nA904 (hS : MS h t ρ A) (m : Mo) : (mput h t ρ m).N (A 904) = 3001 := hS.n m 904 3001
theorem mI905 (h : Hp) (t : Nat) (ρ : Nat → Nat) (m : Mo) : (mput h t ρ m).I 905 t = m.1 905 := mput_I h t ρ m 905
theorem pI905 (h : Hp) (t : Nat) (ρ : Nat → Nat) (m : Mo) (v : Int32) : (mput h t ρ m).sI 905 t v = mput h t ρ (up1 m.1 905 v, m.2) := mput_sI h t ρ m 905 v
theorem mI906 (h : Hp) (t : Nat) (ρ : Nat → Nat) (m : Mo) : (mput h t ρ m).I 906 t = m.1 906 := mput_I h t ρ m 906
theorem pI906 (h : Hp) (t : Nat) (ρ : Nat → Nat) (m : Mo) (v : Int32) : (mput h t ρ m).sI 906 t v = mput h t ρ (up1 m.1 906 v, m.2) := mput_sI h t ρ m 906 v
theorem mA907 (hS : MS h t ρ A) (m : Mo) : (mput h t ρ m).AI (A 907) = m.2 907 := mput_AI hS m 907
theorem pA907 (hS : MS h t ρ A) (m : Mo) (i : Nat) (v : Int32) : (mput h t ρ m).sAI (A 907) i v = mput h t ρ (m.1, up2 m.2 907 i v) := mput_sAI hS m 907 i v
theorem nA907 (hS : MS h t ρ A) (m : Mo) : (mput h t ρ m).N (A 907) = 800 := hS.n m 907 800
theorem mA908 (hS : MS h t ρ A) (m : Mo) : (mput h t ρ m).AI (A 908) = m.2 908 := mput_AI hS m 908
theorem pA908 (hS : MS h t ρ A) (m : Mo) (i : Nat) (v : Int32) : (mput h t ρ m).sAI (A 908) i v = mput h t ρ (m.1, up2 m.2 908 i v) := mput_sAI hS m 908 i v
theorem nA908 (hS : MS h t ρ A) (m : Mo) : (mput h t ρ m).N (A 908) = 800 := hS.n m 908 800
theorem mA909 (hS : MS h t ρ A) (m : Mo) : (mput h t ρ m).AI (A 909) = m.2 909 := mput_AI hS m 909
theorem pA909 (hS : MS h t ρ A) (m : Mo) (i : Nat) (v : Int32) : (mput h t ρ m).sAI (A 909) i v = mput h t ρ (m.1, up2 m.2 909 i v) := mput_sAI hS m 909 i v
theorem nA909 (hS : MS h t ρ A) (m : Mo) : (mput h t ρ m).N (A 909) = 800 := hS.n m 909 800
theorem mA910 (hS : MS h t ρ A) (m : Mo) : (mput h t ρ m).AI (A 910) = m.2 910 := mput_AI hS m 910
theorem pA910 (hS : MS h t ρ A) (m : Mo) (i : Nat) (v : Int32) : (mput h t ρ m).sAI (A 910) i v = mput h t ρ (m.1, up2 m.2 910 i v) := mput_sAI hS m 910 i v
theorem nA910 (hS : MS h t ρ A) (m : Mo) : (mput h t ρ m).N (A 910) = 800 := hS.n m 910 800
theorem mA911 (hS : MS h t ρ A) (m : Mo) : (mput h t ρ m).AI (A 911) = m.2 911 := mput_AI hS m 911
theorem pA911 (hS : MS h t ρ A) (m : Mo) (i : Nat) (v : Int32) : (mput h t ρ m).sAI (A 911) i v = mput h t ρ (m.1, up2 m.2 911 i v) := mput_sAI hS m 911 i v
theorem nA911 (hS : MS h t ρ A) (m : Mo) : (mput h t ρ m).N (A 911) = 800 := hS.n m 911 800
theorem mI912 (h : Hp) (t : Nat) (ρ : Nat → Nat) (m : Mo) : (mput h t ρ m).I 912 t = m.1 912 := mput_I h t ρ m 912
theorem pI912 (h : Hp) (t : Nat) (ρ : Nat → Nat) (m : Mo) (v : Int32) : (mput h t ρ m).sI 912 t v = mput h t ρ (up1 m.1 912 v, m.2) := mput_sI h t ρ m 912 v
theorem mA913 (hS : MS h t ρ A) (m : Mo) : (mput h t ρ m).AI (A 913) = m.2 913 := mput_AI hS m 913
theorem pA913 (hS : MS h t ρ A) (m : Mo) (i : Nat) (v : Int32) : (mput h t ρ m).sAI (A 913) i v = mput h t ρ (m.1, up2 m.2 913 i v) := mput_sAI hS m 913 i v
theorem nA913 (hS : MS h t ρ A) (m : Mo) : (mput h t ρ m).N (A 913) = 800 := hS.n m 913 800
theorem mA914 (hS : MS h t ρ A) (m : Mo) : (mput h t ρ m).AI (A 914) = m.2 914 := mput_AI hS m 914
theorem pA914 (hS : MS h t ρ A) (m : Mo) (i : Nat) (v : Int32) : (mput h t ρ m).sAI (A 914) i v = mput h t ρ (m.1, up2 m.2 914 i v) := mput_sAI hS m 914 i v
theorem nA914 (hS : MS h t ρ A) (m : Mo) : (mput h t ρ m).N (A 914) = 800 := hS.n m 914 800
theorem mI915 (h : Hp) (t : Nat) (ρ : Nat → Nat) (m : Mo) : (mput h t ρ m).I 915 t = m.1 915 := mput_I h t ρ m 915
theorem pI915 (h : Hp) (t : Nat) (ρ : Nat → Nat) (m : Mo) (v : Int32) : (mput h t ρ m).sI 915 t v = mput h t ρ (up1 m.1 915 v, m.2) := mput_sI h t ρ m 915 v
theorem mI916 (h : Hp) (t : Nat) (ρ : Nat → Nat) (m : Mo) : (mput h t ρ m).I 916 t = m.1 916 := mput_I h t ρ m 916
theorem pI916 (h : Hp) (t : Nat) (ρ : Nat → Nat) (m : Mo) (v : Int32) : (mput h t ρ m).sI 916 t v = mput h t ρ (up1 m.1 916 v, m.2) := mput_sI h t ρ m 916 v
theorem mI917 (h : Hp) (t : Nat) (ρ : Nat → Nat) (m : Mo) : (mput h t ρ m).I 917 t = m.1 917 := mput_I h t ρ m 917
theorem pI917 (h : Hp) (t : Nat) (ρ : Nat → Nat) (m : Mo) (v : Int32) : (mput h t ρ m).sI 917 t v = mput h t ρ (up1 m.1 917 v, m.2) := mput_sI h t ρ m 917 v
theorem mI918 (h : Hp) (t : Nat) (ρ : Nat → Nat) (m : Mo) : (mput h t ρ m).I 918 t = m.1 918 := mput_I h t ρ m 918
theorem pI918 (h : Hp) (t : Nat) (ρ : Nat → Nat) (m : Mo) (v : Int32) : (mput h t ρ m).sI 918 t v = mput h t ρ (up1 m.1 918 v, m.2) := mput_sI h t ρ m 918 v
theorem mI919 (h : Hp) (t : Nat) (ρ : Nat → Nat) (m : Mo) : (mput h t ρ m).I 919 t = m.1 919 := mput_I h t ρ m 919
theorem pI919 (h : Hp) (t : Nat) (ρ : Nat → Nat) (m : Mo) (v : Int32) : (mput h t ρ m).sI 919 t v = mput h t ρ (up1 m.1 919 v, m.2) := mput_sI h t ρ m 919 v
theorem mI920 (h : Hp) (t : Nat) (ρ : Nat → Nat) (m : Mo) : (mput h t ρ m).I 920 t = m.1 920 := mput_I h t ρ m 920
theorem pI920 (h : Hp) (t : Nat) (ρ : Nat → Nat) (m : Mo) (v : Int32) : (mput h t ρ m).sI 920 t v = mput h t ρ (up1 m.1 920 v, m.2) := mput_sI h t ρ m 920 v
theorem mI921 (h : Hp) (t : Nat) (ρ : Nat → Nat) (m : Mo) : (mput h t ρ m).I 921 t = m.1 921 := mput_I h t ρ m 921
theorem pI921 (h : Hp) (t : Nat) (ρ : Nat → Nat) (m : Mo) (v : Int32) : (mput h t ρ m).sI 921 t v = mput h t ρ (up1 m.1 921 v, m.2) := mput_sI h t ρ m 921 v
theorem mA922 (hS : MS h t ρ A) (m : Mo) : (mput h t ρ m).AI (A 922) = m.2 922 := mput_AI hS m 922
theorem pA922 (hS : MS h t ρ A) (m : Mo) (i : Nat) (v : Int32) : (mput h t ρ m).sAI (A 922) i v = mput h t ρ (m.1, up2 m.2 922 i v) := mput_sAI hS m 922 i v
theorem nA922 (hS : MS h t ρ A) (m : Mo) : (mput h t ρ m).N (A 922) = 16 := hS.n m 922 16
theorem mA923 (hS : MS h t ρ A) (m : Mo) : (mput h t ρ m).AI (A 923) = m.2 923 := mput_AI hS m 923
theorem pA923 (hS : MS h t ρ A) (m : Mo) (i : Nat) (v : Int32) : (mput h t ρ m).sAI (A 923) i v = mput h t ρ (m.1, up2 m.2 923 i v) := mput_sAI hS m 923 i v
theorem nA923 (hS : MS h t ρ A) (m : Mo) : (mput h t ρ m).N (A 923) = 32 := hS.n m 923 32
theorem mA924 (hS : MS h t ρ A) (m : Mo) : (mput h t ρ m).AI (A 924) = m.2 924 := mput_AI hS m 924
theorem pA924 (hS : MS h t ρ A) (m : Mo) (i : Nat) (v : Int32) : (mput h t ρ m).sAI (A 924) i v = mput h t ρ (m.1, up2 m.2 924 i v) := mput_sAI hS m 924 i v
theorem nA924 (hS : MS h t ρ A) (m : Mo) : (mput h t ρ m).N (A 924) = 32 := hS.n m 924 32
theorem mA925 (hS : MS h t ρ A) (m : Mo) : (mput h t ρ m).AI (A 925) = m.2 925 := mput_AI hS m 925
theorem pA925 (hS : MS h t ρ A) (m : Mo) (i : Nat) (v : Int32) : (mput h t ρ m).sAI (A 925) i v = mput h t ρ (m.1, up2 m.2 925 i v) := mput_sAI hS m 925 i v
theorem nA925 (hS : MS h t ρ A) (m : Mo) : (mput h t ρ m).N (A 925) = 3001 := hS.n m 925 3001
theorem mA926 (hS : MS h t ρ A) (m : Mo) : (mput h t ρ m).AI (A 926) = m.2 926 := mput_AI hS m 926
theorem pA926 (hS : MS h t ρ A) (m : Mo) (i : Nat) (v : Int32) : (mput h t ρ m).sAI (A 926) i v = mput h t ρ (m.1, up2 m.2 926 i v) := mput_sAI hS m 926 i v
theorem nA926 (hS : MS h t ρ A) (m : Mo) : (mput h t ρ m).N (A 926) = 800 := hS.n m 926 800
theorem mA927 (hS : MS h t ρ A) (m : Mo) : (mput h t ρ m).AI (A 927) = m.2 927 := mput_AI hS m 927
theorem pA927 (hS : MS h t ρ A) (m : Mo) (i : Nat) (v : Int32) : (mput h t ρ m).sAI (A 927) i v = mput h t ρ (m.1, up2 m.2 927 i v) := mput_sAI hS m 927 i v
theorem nA927 (hS : MS h t ρ A) (m : Mo) : (mput h t ρ m).N (A 927) = 800 := hS.n m 927 800
theorem mA928 (hS : MS h t ρ A) (m : Mo) : (mput h t ρ m).AI (A 928) = m.2 928 := mput_AI hS m 928
theorem pA928 (hS : MS h t ρ A) (m : Mo) (i : Nat) (v : Int32) : (mput h t ρ m).sAI (A 928) i v = mput h t ρ (m.1, up2 m.2 928 i v) := mput_sAI hS m 928 i v
theorem nA928 (hS : MS h t ρ A) (m : Mo) : (mput h t ρ m).N (A 928) = 800 := hS.n m 928 800
theorem mA929 (hS : MS h t ρ A) (m : Mo) : (mput h t ρ m).AI (A 929) = m.2 929 := mput_AI hS m 929
theorem pA929 (hS : MS h t ρ A) (m : Mo) (i : Nat) (v : Int32) : (mput h t ρ m).sAI (A 929) i v = mput h t ρ (m.1, up2 m.2 929 i v) := mput_sAI hS m 929 i v
theorem nA929 (hS : MS h t ρ A) (m : Mo) : (mput h t ρ m).N (A 929) = 800 := hS.n m 929 800
theorem mA930 (hS : MS h t ρ A) (m : Mo) : (mput h t ρ m).AI (A 930) = m.2 930 := mput_AI hS m 930
theorem pA930 (hS : MS h t ρ A) (m : Mo) (i : Nat) (v : Int32) : (mput h t ρ m).sAI (A 930) i v = mput h t ρ (m.1, up2 m.2 930 i v) := mput_sAI hS m 930 i v
theorem nA930 (hS : MS h t ρ A) (m : Mo) : (mput h t ρ m).N (A 930) = 800 := hS.n m 930 800
theorem mA931 (hS : MS h t ρ A) (m : Mo) : (mput h t ρ m).AI (A 931) = m.2 931 := mput_AI hS m 931
theorem pA931 (hS : MS h t ρ A) (m : Mo) (i : Nat) (v : Int32) : (mput h t ρ m).sAI (A 931) i v = mput h t ρ (m.1, up2 m.2 931 i v) := mput_sAI hS m 931 i v
theorem nA931 (hS : MS h t ρ A) (m : Mo) : (mput h t ρ m).N (A 931) = 800 := hS.n m 931 800
theorem mI932 (h : Hp) (t : Nat) (ρ : Nat → Nat) (m : Mo) : (mput h t ρ m).I 932 t = m.1 932 := mput_I h t ρ m 932
theorem pI932 (h : Hp) (t : Nat) (ρ : Nat → Nat) (m : Mo) (v : Int32) : (mput h t ρ m).sI 932 t v = mput h t ρ (up1 m.1 932 v, m.2) := mput_sI h t ρ m 932 v
end MOF
