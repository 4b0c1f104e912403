/-! The class: its objects, step by step (wip/gen/gen_ctor.py). -/
theorem k_3_init_43 {Hb : jH} {Q : Unit → jH → Prop} {H : jH} (hc : jcs 44 36128 10 Hb 32 H) (hk : ∀ H', jcs 49 38797 15 Hb 32 H' → Q () H') : jT (F_3_init 43 H) Q := by
  unfold F_3_init
  refine jT_g (by decide) ?_
  refine jT_g (by decide) ?_
  refine c_nw hc 2560 45 38688 (by decide +kernel) fun H14 hc14 => ?_
  refine c_sR hc14 (c_K hc14 (by decide +kernel)) 43 0 44 11 rfl rfl rfl (by decide +kernel) fun H15 hc15 => ?_
  refine jT_g (by decide) ?_
  refine c_nw hc15 8 46 38696 (by decide +kernel) fun H16 hc16 => ?_
  refine c_sR hc16 (c_K hc16 (by decide +kernel)) 43 2 45 12 rfl rfl rfl (by decide +kernel) fun H17 hc17 => ?_
  refine jT_g (by decide) ?_
  refine c_nw hc17 64 47 38760 (by decide +kernel) fun H18 hc18 => ?_
  refine c_sR hc18 (c_K hc18 (by decide +kernel)) 43 3 46 13 rfl rfl rfl (by decide +kernel) fun H19 hc19 => ?_
  refine jT_g (by decide) ?_
  refine c_nw hc19 5 48 38765 (by decide +kernel) fun H20 hc20 => ?_
  refine c_sR hc20 (c_K hc20 (by decide +kernel)) 43 4 47 14 rfl rfl rfl (by decide +kernel) fun H21 hc21 => ?_
  refine jT_g (by decide) ?_
  refine c_nw hc21 32 49 38797 (by decide +kernel) fun H22 hc22 => ?_
  refine c_sR hc22 (c_K hc22 (by decide +kernel)) 43 5 48 15 rfl rfl rfl (by decide +kernel) fun H23 hc23 => ?_
  exact jT_ret (hk _ hc23)
theorem k_5_init_96 {Hb : jH} {Q : Unit → jH → Prop} {H : jH} (hc : jcs 97 39740 61 Hb 32 H) (hk : ∀ H', jcs 100 39770 64 Hb 32 H' → Q () H') : jT (F_5_init 96 H) Q := by
  unfold F_5_init
  refine jT_g (by decide) ?_
  refine jT_g (by decide) ?_
  refine c_nw hc 10 98 39750 (by decide +kernel) fun H55 hc55 => ?_
  refine c_sR hc55 (c_K hc55 (by decide +kernel)) 96 0 97 62 rfl rfl rfl (by decide +kernel) fun H56 hc56 => ?_
  refine jT_g (by decide) ?_
  refine c_nw hc56 10 99 39760 (by decide +kernel) fun H57 hc57 => ?_
  refine c_sR hc57 (c_K hc57 (by decide +kernel)) 96 1 98 63 rfl rfl rfl (by decide +kernel) fun H58 hc58 => ?_
  refine jT_g (by decide) ?_
  refine c_nw hc58 10 100 39770 (by decide +kernel) fun H59 hc59 => ?_
  refine c_sR hc59 (c_K hc59 (by decide +kernel)) 96 2 99 64 rfl rfl rfl (by decide +kernel) fun H60 hc60 => ?_
  refine c_sI hc60 ⟨c_K hc60 (by decide +kernel), Or.inr rfl⟩ (by decide +kernel) fun H61 hc61 => ?_
  exact jT_ret (hk _ hc61)
theorem k_5_init_100 {Hb : jH} {Q : Unit → jH → Prop} {H : jH} (hc : jcs 101 39774 65 Hb 32 H) (hk : ∀ H', jcs 104 39804 68 Hb 32 H' → Q () H') : jT (F_5_init 100 H) Q := by
  unfold F_5_init
  refine jT_g (by decide) ?_
  refine jT_g (by decide) ?_
  refine c_nw hc 10 102 39784 (by decide +kernel) fun H65 hc65 => ?_
  refine c_sR hc65 (c_K hc65 (by decide +kernel)) 100 0 101 66 rfl rfl rfl (by decide +kernel) fun H66 hc66 => ?_
  refine jT_g (by decide) ?_
  refine c_nw hc66 10 103 39794 (by decide +kernel) fun H67 hc67 => ?_
  refine c_sR hc67 (c_K hc67 (by decide +kernel)) 100 1 102 67 rfl rfl rfl (by decide +kernel) fun H68 hc68 => ?_
  refine jT_g (by decide) ?_
  refine c_nw hc68 10 104 39804 (by decide +kernel) fun H69 hc69 => ?_
  refine c_sR hc69 (c_K hc69 (by decide +kernel)) 100 2 103 68 rfl rfl rfl (by decide +kernel) fun H70 hc70 => ?_
  refine c_sI hc70 ⟨c_K hc70 (by decide +kernel), Or.inr rfl⟩ (by decide +kernel) fun H71 hc71 => ?_
  exact jT_ret (hk _ hc71)
theorem k_5_init_104 {Hb : jH} {Q : Unit → jH → Prop} {H : jH} (hc : jcs 105 39808 69 Hb 32 H) (hk : ∀ H', jcs 108 39838 72 Hb 32 H' → Q () H') : jT (F_5_init 104 H) Q := by
  unfold F_5_init
  refine jT_g (by decide) ?_
  refine jT_g (by decide) ?_
  refine c_nw hc 10 106 39818 (by decide +kernel) fun H75 hc75 => ?_
  refine c_sR hc75 (c_K hc75 (by decide +kernel)) 104 0 105 70 rfl rfl rfl (by decide +kernel) fun H76 hc76 => ?_
  refine jT_g (by decide) ?_
  refine c_nw hc76 10 107 39828 (by decide +kernel) fun H77 hc77 => ?_
  refine c_sR hc77 (c_K hc77 (by decide +kernel)) 104 1 106 71 rfl rfl rfl (by decide +kernel) fun H78 hc78 => ?_
  refine jT_g (by decide) ?_
  refine c_nw hc78 10 108 39838 (by decide +kernel) fun H79 hc79 => ?_
  refine c_sR hc79 (c_K hc79 (by decide +kernel)) 104 2 107 72 rfl rfl rfl (by decide +kernel) fun H80 hc80 => ?_
  refine c_sI hc80 ⟨c_K hc80 (by decide +kernel), Or.inr rfl⟩ (by decide +kernel) fun H81 hc81 => ?_
  exact jT_ret (hk _ hc81)
theorem k_5_init_108 {Hb : jH} {Q : Unit → jH → Prop} {H : jH} (hc : jcs 109 39842 73 Hb 32 H) (hk : ∀ H', jcs 112 39872 76 Hb 32 H' → Q () H') : jT (F_5_init 108 H) Q := by
  unfold F_5_init
  refine jT_g (by decide) ?_
  refine jT_g (by decide) ?_
  refine c_nw hc 10 110 39852 (by decide +kernel) fun H85 hc85 => ?_
  refine c_sR hc85 (c_K hc85 (by decide +kernel)) 108 0 109 74 rfl rfl rfl (by decide +kernel) fun H86 hc86 => ?_
  refine jT_g (by decide) ?_
  refine c_nw hc86 10 111 39862 (by decide +kernel) fun H87 hc87 => ?_
  refine c_sR hc87 (c_K hc87 (by decide +kernel)) 108 1 110 75 rfl rfl rfl (by decide +kernel) fun H88 hc88 => ?_
  refine jT_g (by decide) ?_
  refine c_nw hc88 10 112 39872 (by decide +kernel) fun H89 hc89 => ?_
  refine c_sR hc89 (c_K hc89 (by decide +kernel)) 108 2 111 76 rfl rfl rfl (by decide +kernel) fun H90 hc90 => ?_
  refine c_sI hc90 ⟨c_K hc90 (by decide +kernel), Or.inr rfl⟩ (by decide +kernel) fun H91 hc91 => ?_
  exact jT_ret (hk _ hc91)
theorem k_5_init_112 {Hb : jH} {Q : Unit → jH → Prop} {H : jH} (hc : jcs 113 39876 77 Hb 32 H) (hk : ∀ H', jcs 116 39906 80 Hb 32 H' → Q () H') : jT (F_5_init 112 H) Q := by
  unfold F_5_init
  refine jT_g (by decide) ?_
  refine jT_g (by decide) ?_
  refine c_nw hc 10 114 39886 (by decide +kernel) fun H95 hc95 => ?_
  refine c_sR hc95 (c_K hc95 (by decide +kernel)) 112 0 113 78 rfl rfl rfl (by decide +kernel) fun H96 hc96 => ?_
  refine jT_g (by decide) ?_
  refine c_nw hc96 10 115 39896 (by decide +kernel) fun H97 hc97 => ?_
  refine c_sR hc97 (c_K hc97 (by decide +kernel)) 112 1 114 79 rfl rfl rfl (by decide +kernel) fun H98 hc98 => ?_
  refine jT_g (by decide) ?_
  refine c_nw hc98 10 116 39906 (by decide +kernel) fun H99 hc99 => ?_
  refine c_sR hc99 (c_K hc99 (by decide +kernel)) 112 2 115 80 rfl rfl rfl (by decide +kernel) fun H100 hc100 => ?_
  refine c_sI hc100 ⟨c_K hc100 (by decide +kernel), Or.inr rfl⟩ (by decide +kernel) fun H101 hc101 => ?_
  exact jT_ret (hk _ hc101)
theorem k_5_init_116 {Hb : jH} {Q : Unit → jH → Prop} {H : jH} (hc : jcs 117 39910 81 Hb 32 H) (hk : ∀ H', jcs 120 39940 84 Hb 32 H' → Q () H') : jT (F_5_init 116 H) Q := by
  unfold F_5_init
  refine jT_g (by decide) ?_
  refine jT_g (by decide) ?_
  refine c_nw hc 10 118 39920 (by decide +kernel) fun H105 hc105 => ?_
  refine c_sR hc105 (c_K hc105 (by decide +kernel)) 116 0 117 82 rfl rfl rfl (by decide +kernel) fun H106 hc106 => ?_
  refine jT_g (by decide) ?_
  refine c_nw hc106 10 119 39930 (by decide +kernel) fun H107 hc107 => ?_
  refine c_sR hc107 (c_K hc107 (by decide +kernel)) 116 1 118 83 rfl rfl rfl (by decide +kernel) fun H108 hc108 => ?_
  refine jT_g (by decide) ?_
  refine c_nw hc108 10 120 39940 (by decide +kernel) fun H109 hc109 => ?_
  refine c_sR hc109 (c_K hc109 (by decide +kernel)) 116 2 119 84 rfl rfl rfl (by decide +kernel) fun H110 hc110 => ?_
  refine c_sI hc110 ⟨c_K hc110 (by decide +kernel), Or.inr rfl⟩ (by decide +kernel) fun H111 hc111 => ?_
  exact jT_ret (hk _ hc111)
theorem k_5_init_120 {Hb : jH} {Q : Unit → jH → Prop} {H : jH} (hc : jcs 121 39944 85 Hb 32 H) (hk : ∀ H', jcs 124 39974 88 Hb 32 H' → Q () H') : jT (F_5_init 120 H) Q := by
  unfold F_5_init
  refine jT_g (by decide) ?_
  refine jT_g (by decide) ?_
  refine c_nw hc 10 122 39954 (by decide +kernel) fun H115 hc115 => ?_
  refine c_sR hc115 (c_K hc115 (by decide +kernel)) 120 0 121 86 rfl rfl rfl (by decide +kernel) fun H116 hc116 => ?_
  refine jT_g (by decide) ?_
  refine c_nw hc116 10 123 39964 (by decide +kernel) fun H117 hc117 => ?_
  refine c_sR hc117 (c_K hc117 (by decide +kernel)) 120 1 122 87 rfl rfl rfl (by decide +kernel) fun H118 hc118 => ?_
  refine jT_g (by decide) ?_
  refine c_nw hc118 10 124 39974 (by decide +kernel) fun H119 hc119 => ?_
  refine c_sR hc119 (c_K hc119 (by decide +kernel)) 120 2 123 88 rfl rfl rfl (by decide +kernel) fun H120 hc120 => ?_
  refine c_sI hc120 ⟨c_K hc120 (by decide +kernel), Or.inr rfl⟩ (by decide +kernel) fun H121 hc121 => ?_
  exact jT_ret (hk _ hc121)
theorem k_5_init_124 {Hb : jH} {Q : Unit → jH → Prop} {H : jH} (hc : jcs 125 39978 89 Hb 32 H) (hk : ∀ H', jcs 128 40008 92 Hb 32 H' → Q () H') : jT (F_5_init 124 H) Q := by
  unfold F_5_init
  refine jT_g (by decide) ?_
  refine jT_g (by decide) ?_
  refine c_nw hc 10 126 39988 (by decide +kernel) fun H125 hc125 => ?_
  refine c_sR hc125 (c_K hc125 (by decide +kernel)) 124 0 125 90 rfl rfl rfl (by decide +kernel) fun H126 hc126 => ?_
  refine jT_g (by decide) ?_
  refine c_nw hc126 10 127 39998 (by decide +kernel) fun H127 hc127 => ?_
  refine c_sR hc127 (c_K hc127 (by decide +kernel)) 124 1 126 91 rfl rfl rfl (by decide +kernel) fun H128 hc128 => ?_
  refine jT_g (by decide) ?_
  refine c_nw hc128 10 128 40008 (by decide +kernel) fun H129 hc129 => ?_
  refine c_sR hc129 (c_K hc129 (by decide +kernel)) 124 2 127 92 rfl rfl rfl (by decide +kernel) fun H130 hc130 => ?_
  refine c_sI hc130 ⟨c_K hc130 (by decide +kernel), Or.inr rfl⟩ (by decide +kernel) fun H131 hc131 => ?_
  exact jT_ret (hk _ hc131)
theorem k_5_init_128 {Hb : jH} {Q : Unit → jH → Prop} {H : jH} (hc : jcs 129 40012 93 Hb 32 H) (hk : ∀ H', jcs 132 40042 96 Hb 32 H' → Q () H') : jT (F_5_init 128 H) Q := by
  unfold F_5_init
  refine jT_g (by decide) ?_
  refine jT_g (by decide) ?_
  refine c_nw hc 10 130 40022 (by decide +kernel) fun H135 hc135 => ?_
  refine c_sR hc135 (c_K hc135 (by decide +kernel)) 128 0 129 94 rfl rfl rfl (by decide +kernel) fun H136 hc136 => ?_
  refine jT_g (by decide) ?_
  refine c_nw hc136 10 131 40032 (by decide +kernel) fun H137 hc137 => ?_
  refine c_sR hc137 (c_K hc137 (by decide +kernel)) 128 1 130 95 rfl rfl rfl (by decide +kernel) fun H138 hc138 => ?_
  refine jT_g (by decide) ?_
  refine c_nw hc138 10 132 40042 (by decide +kernel) fun H139 hc139 => ?_
  refine c_sR hc139 (c_K hc139 (by decide +kernel)) 128 2 131 96 rfl rfl rfl (by decide +kernel) fun H140 hc140 => ?_
  refine c_sI hc140 ⟨c_K hc140 (by decide +kernel), Or.inr rfl⟩ (by decide +kernel) fun H141 hc141 => ?_
  exact jT_ret (hk _ hc141)
theorem k_5_init_132 {Hb : jH} {Q : Unit → jH → Prop} {H : jH} (hc : jcs 133 40046 97 Hb 32 H) (hk : ∀ H', jcs 136 40076 100 Hb 32 H' → Q () H') : jT (F_5_init 132 H) Q := by
  unfold F_5_init
  refine jT_g (by decide) ?_
  refine jT_g (by decide) ?_
  refine c_nw hc 10 134 40056 (by decide +kernel) fun H145 hc145 => ?_
  refine c_sR hc145 (c_K hc145 (by decide +kernel)) 132 0 133 98 rfl rfl rfl (by decide +kernel) fun H146 hc146 => ?_
  refine jT_g (by decide) ?_
  refine c_nw hc146 10 135 40066 (by decide +kernel) fun H147 hc147 => ?_
  refine c_sR hc147 (c_K hc147 (by decide +kernel)) 132 1 134 99 rfl rfl rfl (by decide +kernel) fun H148 hc148 => ?_
  refine jT_g (by decide) ?_
  refine c_nw hc148 10 136 40076 (by decide +kernel) fun H149 hc149 => ?_
  refine c_sR hc149 (c_K hc149 (by decide +kernel)) 132 2 135 100 rfl rfl rfl (by decide +kernel) fun H150 hc150 => ?_
  refine c_sI hc150 ⟨c_K hc150 (by decide +kernel), Or.inr rfl⟩ (by decide +kernel) fun H151 hc151 => ?_
  exact jT_ret (hk _ hc151)
theorem k_5_init_136 {Hb : jH} {Q : Unit → jH → Prop} {H : jH} (hc : jcs 137 40080 101 Hb 32 H) (hk : ∀ H', jcs 140 40110 104 Hb 32 H' → Q () H') : jT (F_5_init 136 H) Q := by
  unfold F_5_init
  refine jT_g (by decide) ?_
  refine jT_g (by decide) ?_
  refine c_nw hc 10 138 40090 (by decide +kernel) fun H155 hc155 => ?_
  refine c_sR hc155 (c_K hc155 (by decide +kernel)) 136 0 137 102 rfl rfl rfl (by decide +kernel) fun H156 hc156 => ?_
  refine jT_g (by decide) ?_
  refine c_nw hc156 10 139 40100 (by decide +kernel) fun H157 hc157 => ?_
  refine c_sR hc157 (c_K hc157 (by decide +kernel)) 136 1 138 103 rfl rfl rfl (by decide +kernel) fun H158 hc158 => ?_
  refine jT_g (by decide) ?_
  refine c_nw hc158 10 140 40110 (by decide +kernel) fun H159 hc159 => ?_
  refine c_sR hc159 (c_K hc159 (by decide +kernel)) 136 2 139 104 rfl rfl rfl (by decide +kernel) fun H160 hc160 => ?_
  refine c_sI hc160 ⟨c_K hc160 (by decide +kernel), Or.inr rfl⟩ (by decide +kernel) fun H161 hc161 => ?_
  exact jT_ret (hk _ hc161)
theorem k_5_init_140 {Hb : jH} {Q : Unit → jH → Prop} {H : jH} (hc : jcs 141 40114 105 Hb 32 H) (hk : ∀ H', jcs 144 40144 108 Hb 32 H' → Q () H') : jT (F_5_init 140 H) Q := by
  unfold F_5_init
  refine jT_g (by decide) ?_
  refine jT_g (by decide) ?_
  refine c_nw hc 10 142 40124 (by decide +kernel) fun H165 hc165 => ?_
  refine c_sR hc165 (c_K hc165 (by decide +kernel)) 140 0 141 106 rfl rfl rfl (by decide +kernel) fun H166 hc166 => ?_
  refine jT_g (by decide) ?_
  refine c_nw hc166 10 143 40134 (by decide +kernel) fun H167 hc167 => ?_
  refine c_sR hc167 (c_K hc167 (by decide +kernel)) 140 1 142 107 rfl rfl rfl (by decide +kernel) fun H168 hc168 => ?_
  refine jT_g (by decide) ?_
  refine c_nw hc168 10 144 40144 (by decide +kernel) fun H169 hc169 => ?_
  refine c_sR hc169 (c_K hc169 (by decide +kernel)) 140 2 143 108 rfl rfl rfl (by decide +kernel) fun H170 hc170 => ?_
  refine c_sI hc170 ⟨c_K hc170 (by decide +kernel), Or.inr rfl⟩ (by decide +kernel) fun H171 hc171 => ?_
  exact jT_ret (hk _ hc171)
theorem k_5_init_144 {Hb : jH} {Q : Unit → jH → Prop} {H : jH} (hc : jcs 145 40148 109 Hb 32 H) (hk : ∀ H', jcs 148 40178 112 Hb 32 H' → Q () H') : jT (F_5_init 144 H) Q := by
  unfold F_5_init
  refine jT_g (by decide) ?_
  refine jT_g (by decide) ?_
  refine c_nw hc 10 146 40158 (by decide +kernel) fun H175 hc175 => ?_
  refine c_sR hc175 (c_K hc175 (by decide +kernel)) 144 0 145 110 rfl rfl rfl (by decide +kernel) fun H176 hc176 => ?_
  refine jT_g (by decide) ?_
  refine c_nw hc176 10 147 40168 (by decide +kernel) fun H177 hc177 => ?_
  refine c_sR hc177 (c_K hc177 (by decide +kernel)) 144 1 146 111 rfl rfl rfl (by decide +kernel) fun H178 hc178 => ?_
  refine jT_g (by decide) ?_
  refine c_nw hc178 10 148 40178 (by decide +kernel) fun H179 hc179 => ?_
  refine c_sR hc179 (c_K hc179 (by decide +kernel)) 144 2 147 112 rfl rfl rfl (by decide +kernel) fun H180 hc180 => ?_
  refine c_sI hc180 ⟨c_K hc180 (by decide +kernel), Or.inr rfl⟩ (by decide +kernel) fun H181 hc181 => ?_
  exact jT_ret (hk _ hc181)
theorem k_5_init_148 {Hb : jH} {Q : Unit → jH → Prop} {H : jH} (hc : jcs 149 40182 113 Hb 32 H) (hk : ∀ H', jcs 152 40212 116 Hb 32 H' → Q () H') : jT (F_5_init 148 H) Q := by
  unfold F_5_init
  refine jT_g (by decide) ?_
  refine jT_g (by decide) ?_
  refine c_nw hc 10 150 40192 (by decide +kernel) fun H185 hc185 => ?_
  refine c_sR hc185 (c_K hc185 (by decide +kernel)) 148 0 149 114 rfl rfl rfl (by decide +kernel) fun H186 hc186 => ?_
  refine jT_g (by decide) ?_
  refine c_nw hc186 10 151 40202 (by decide +kernel) fun H187 hc187 => ?_
  refine c_sR hc187 (c_K hc187 (by decide +kernel)) 148 1 150 115 rfl rfl rfl (by decide +kernel) fun H188 hc188 => ?_
  refine jT_g (by decide) ?_
  refine c_nw hc188 10 152 40212 (by decide +kernel) fun H189 hc189 => ?_
  refine c_sR hc189 (c_K hc189 (by decide +kernel)) 148 2 151 116 rfl rfl rfl (by decide +kernel) fun H190 hc190 => ?_
  refine c_sI hc190 ⟨c_K hc190 (by decide +kernel), Or.inr rfl⟩ (by decide +kernel) fun H191 hc191 => ?_
  exact jT_ret (hk _ hc191)
theorem k_5_init_152 {Hb : jH} {Q : Unit → jH → Prop} {H : jH} (hc : jcs 153 40216 117 Hb 32 H) (hk : ∀ H', jcs 156 40246 120 Hb 32 H' → Q () H') : jT (F_5_init 152 H) Q := by
  unfold F_5_init
  refine jT_g (by decide) ?_
  refine jT_g (by decide) ?_
  refine c_nw hc 10 154 40226 (by decide +kernel) fun H195 hc195 => ?_
  refine c_sR hc195 (c_K hc195 (by decide +kernel)) 152 0 153 118 rfl rfl rfl (by decide +kernel) fun H196 hc196 => ?_
  refine jT_g (by decide) ?_
  refine c_nw hc196 10 155 40236 (by decide +kernel) fun H197 hc197 => ?_
  refine c_sR hc197 (c_K hc197 (by decide +kernel)) 152 1 154 119 rfl rfl rfl (by decide +kernel) fun H198 hc198 => ?_
  refine jT_g (by decide) ?_
  refine c_nw hc198 10 156 40246 (by decide +kernel) fun H199 hc199 => ?_
  refine c_sR hc199 (c_K hc199 (by decide +kernel)) 152 2 155 120 rfl rfl rfl (by decide +kernel) fun H200 hc200 => ?_
  refine c_sI hc200 ⟨c_K hc200 (by decide +kernel), Or.inr rfl⟩ (by decide +kernel) fun H201 hc201 => ?_
  exact jT_ret (hk _ hc201)
theorem k_5_init_156 {Hb : jH} {Q : Unit → jH → Prop} {H : jH} (hc : jcs 157 40250 121 Hb 32 H) (hk : ∀ H', jcs 160 40280 124 Hb 32 H' → Q () H') : jT (F_5_init 156 H) Q := by
  unfold F_5_init
  refine jT_g (by decide) ?_
  refine jT_g (by decide) ?_
  refine c_nw hc 10 158 40260 (by decide +kernel) fun H205 hc205 => ?_
  refine c_sR hc205 (c_K hc205 (by decide +kernel)) 156 0 157 122 rfl rfl rfl (by decide +kernel) fun H206 hc206 => ?_
  refine jT_g (by decide) ?_
  refine c_nw hc206 10 159 40270 (by decide +kernel) fun H207 hc207 => ?_
  refine c_sR hc207 (c_K hc207 (by decide +kernel)) 156 1 158 123 rfl rfl rfl (by decide +kernel) fun H208 hc208 => ?_
  refine jT_g (by decide) ?_
  refine c_nw hc208 10 160 40280 (by decide +kernel) fun H209 hc209 => ?_
  refine c_sR hc209 (c_K hc209 (by decide +kernel)) 156 2 159 124 rfl rfl rfl (by decide +kernel) fun H210 hc210 => ?_
  refine c_sI hc210 ⟨c_K hc210 (by decide +kernel), Or.inr rfl⟩ (by decide +kernel) fun H211 hc211 => ?_
  exact jT_ret (hk _ hc211)
theorem k_5_init_160 {Hb : jH} {Q : Unit → jH → Prop} {H : jH} (hc : jcs 161 40284 125 Hb 32 H) (hk : ∀ H', jcs 164 40314 128 Hb 32 H' → Q () H') : jT (F_5_init 160 H) Q := by
  unfold F_5_init
  refine jT_g (by decide) ?_
  refine jT_g (by decide) ?_
  refine c_nw hc 10 162 40294 (by decide +kernel) fun H215 hc215 => ?_
  refine c_sR hc215 (c_K hc215 (by decide +kernel)) 160 0 161 126 rfl rfl rfl (by decide +kernel) fun H216 hc216 => ?_
  refine jT_g (by decide) ?_
  refine c_nw hc216 10 163 40304 (by decide +kernel) fun H217 hc217 => ?_
  refine c_sR hc217 (c_K hc217 (by decide +kernel)) 160 1 162 127 rfl rfl rfl (by decide +kernel) fun H218 hc218 => ?_
  refine jT_g (by decide) ?_
  refine c_nw hc218 10 164 40314 (by decide +kernel) fun H219 hc219 => ?_
  refine c_sR hc219 (c_K hc219 (by decide +kernel)) 160 2 163 128 rfl rfl rfl (by decide +kernel) fun H220 hc220 => ?_
  refine c_sI hc220 ⟨c_K hc220 (by decide +kernel), Or.inr rfl⟩ (by decide +kernel) fun H221 hc221 => ?_
  exact jT_ret (hk _ hc221)
theorem k_5_init_164 {Hb : jH} {Q : Unit → jH → Prop} {H : jH} (hc : jcs 165 40318 129 Hb 32 H) (hk : ∀ H', jcs 168 40348 132 Hb 32 H' → Q () H') : jT (F_5_init 164 H) Q := by
  unfold F_5_init
  refine jT_g (by decide) ?_
  refine jT_g (by decide) ?_
  refine c_nw hc 10 166 40328 (by decide +kernel) fun H225 hc225 => ?_
  refine c_sR hc225 (c_K hc225 (by decide +kernel)) 164 0 165 130 rfl rfl rfl (by decide +kernel) fun H226 hc226 => ?_
  refine jT_g (by decide) ?_
  refine c_nw hc226 10 167 40338 (by decide +kernel) fun H227 hc227 => ?_
  refine c_sR hc227 (c_K hc227 (by decide +kernel)) 164 1 166 131 rfl rfl rfl (by decide +kernel) fun H228 hc228 => ?_
  refine jT_g (by decide) ?_
  refine c_nw hc228 10 168 40348 (by decide +kernel) fun H229 hc229 => ?_
  refine c_sR hc229 (c_K hc229 (by decide +kernel)) 164 2 167 132 rfl rfl rfl (by decide +kernel) fun H230 hc230 => ?_
  refine c_sI hc230 ⟨c_K hc230 (by decide +kernel), Or.inr rfl⟩ (by decide +kernel) fun H231 hc231 => ?_
  exact jT_ret (hk _ hc231)
theorem k_8_init_50 {Hb : jH} {Q : Unit → jH → Prop} {H : jH} (hc : jcs 51 38822 16 Hb 32 H) (hk : ∀ H', jcs 168 40348 133 Hb 32 H' → Q () H') : jT (F_8_init 50 H) Q := by
  unfold F_8_init
  refine jT_g (by decide) ?_
  refine jT_g (by decide) ?_
  refine c_nw hc 8 52 38830 (by decide +kernel) fun H28 hc28 => ?_
  refine c_sR hc28 (c_K hc28 (by decide +kernel)) 50 1 51 17 rfl rfl rfl (by decide +kernel) fun H29 hc29 => ?_
  refine jT_g (by decide) ?_
  refine c_nw hc29 8 53 38838 (by decide +kernel) fun H30 hc30 => ?_
  refine c_sR hc30 (c_K hc30 (by decide +kernel)) 50 2 52 18 rfl rfl rfl (by decide +kernel) fun H31 hc31 => ?_
  refine jT_g (by decide) ?_
  refine c_nw hc31 8 54 38846 (by decide +kernel) fun H32 hc32 => ?_
  refine c_sR hc32 (c_K hc32 (by decide +kernel)) 50 3 53 19 rfl rfl rfl (by decide +kernel) fun H33 hc33 => ?_
  refine jT_g (by decide) ?_
  refine c_nw hc33 8 55 38854 (by decide +kernel) fun H34 hc34 => ?_
  refine c_sR hc34 (c_K hc34 (by decide +kernel)) 50 4 54 20 rfl rfl rfl (by decide +kernel) fun H35 hc35 => ?_
  refine jT_g (by decide) ?_
  refine c_nw hc35 8 56 38862 (by decide +kernel) fun H36 hc36 => ?_
  refine c_sR hc36 (c_K hc36 (by decide +kernel)) 50 5 55 21 rfl rfl rfl (by decide +kernel) fun H37 hc37 => ?_
  refine jT_g (by decide) ?_
  refine c_nw hc37 16 57 38878 (by decide +kernel) fun H38 hc38 => ?_
  refine c_sR hc38 (c_K hc38 (by decide +kernel)) 50 6 56 22 rfl rfl rfl (by decide +kernel) fun H39 hc39 => ?_
  refine jT_g (by decide) ?_
  refine c_nw hc39 8 58 38886 (by decide +kernel) fun H40 hc40 => ?_
  refine c_sR hc40 (c_K hc40 (by decide +kernel)) 50 7 57 23 rfl rfl rfl (by decide +kernel) fun H41 hc41 => ?_
  refine jT_g (by decide) ?_
  refine c_nm hc41 16 8 75 39030 39 (by decide +kernel) fun H42 hc42 => ?_
  refine c_sR hc42 (c_K hc42 (by decide +kernel)) 50 8 58 40 rfl rfl rfl (by decide +kernel) fun H43 hc43 => ?_
  refine jT_g (by decide) ?_
  refine c_nm hc43 16 10 92 39206 56 (by decide +kernel) fun H44 hc44 => ?_
  refine c_sR hc44 (c_K hc44 (by decide +kernel)) 50 9 75 57 rfl rfl rfl (by decide +kernel) fun H45 hc45 => ?_
  refine jT_g (by decide) ?_
  refine c_nw hc45 257 93 39463 (by decide +kernel) fun H46 hc46 => ?_
  refine c_sR hc46 (c_K hc46 (by decide +kernel)) 50 10 92 58 rfl rfl rfl (by decide +kernel) fun H47 hc47 => ?_
  refine jT_g (by decide) ?_
  refine c_nw hc47 257 94 39720 (by decide +kernel) fun H48 hc48 => ?_
  refine c_sR hc48 (c_K hc48 (by decide +kernel)) 50 11 93 59 rfl rfl rfl (by decide +kernel) fun H49 hc49 => ?_
  refine jT_g (by decide) ?_
  refine c_nw hc49 8 95 39728 (by decide +kernel) fun H50 hc50 => ?_
  refine c_sR hc50 (c_K hc50 (by decide +kernel)) 50 12 94 60 rfl rfl rfl (by decide +kernel) fun H51 hc51 => ?_
  refine jT_g (by decide) ?_
  refine c_nw hc51 8 96 39736 (by decide +kernel) fun H52 hc52 => ?_
  refine c_sR hc52 (c_K hc52 (by decide +kernel)) 50 13 95 61 rfl rfl rfl (by decide +kernel) fun H53 hc53 => ?_
  refine c_nw hc53 4 97 39740 (by decide +kernel) fun H54 hc54 => ?_
  refine jT_g (by decide) ?_
  refine jT_b (k_5_init_96 hc54 fun H62 hc62 => ?_)
  refine c_sR hc62 (c_K hc62 (by decide +kernel)) 50 14 96 65 rfl rfl rfl (by decide +kernel) fun H63 hc63 => ?_
  refine c_nw hc63 4 101 39774 (by decide +kernel) fun H64 hc64 => ?_
  refine jT_g (by decide) ?_
  refine jT_b (k_5_init_100 hc64 fun H72 hc72 => ?_)
  refine c_sR hc72 (c_K hc72 (by decide +kernel)) 50 15 100 69 rfl rfl rfl (by decide +kernel) fun H73 hc73 => ?_
  obtain ⟨f, ef⟩ : ∃ f, jfuel = f + 9 := ⟨4294967287, rfl⟩
  rw [ef]
  unfold F_8_init_144 B_8_init_144
  refine jT_neg (by decide) (jT_g (c_K hc73 (by decide +kernel)) ?_)
  rw [c_R hc73 (v := 94) (by decide +kernel)]
  refine c_nw hc73 4 105 39808 (by decide +kernel) fun H74 hc74 => ?_
  refine jT_g (by decide) ?_
  refine jT_b (k_5_init_104 hc74 fun H82 hc82 => ?_)
  refine c_sR hc82 (by rw [c_Kf hc82 (q := (115, 8)) (by decide +kernel), c_Kf hc82 (a := 104) (q := (5, 4)) (by decide +kernel)]; decide) 94 0 104 73 rfl (by decide) rfl (by decide +kernel) fun H83 hc83 => ?_
  refine jT_g (c_K hc83 (by decide +kernel)) ?_
  rw [c_R hc83 (v := 95) (by decide +kernel)]
  refine c_nw hc83 4 109 39842 (by decide +kernel) fun H84 hc84 => ?_
  refine jT_g (by decide) ?_
  refine jT_b (k_5_init_108 hc84 fun H92 hc92 => ?_)
  refine c_sR hc92 (by rw [c_Kf hc92 (q := (115, 8)) (by decide +kernel), c_Kf hc92 (a := 108) (q := (5, 4)) (by decide +kernel)]; decide) 95 0 108 77 rfl (by decide) rfl (by decide +kernel) fun H93 hc93 => ?_
  refine jT_l ?_
  unfold F_8_init_144 B_8_init_144
  refine jT_neg (by decide) (jT_g (c_K hc93 (by decide +kernel)) ?_)
  rw [c_R hc93 (v := 94) (by decide +kernel)]
  refine c_nw hc93 4 113 39876 (by decide +kernel) fun H94 hc94 => ?_
  refine jT_g (by decide) ?_
  refine jT_b (k_5_init_112 hc94 fun H102 hc102 => ?_)
  refine c_sR hc102 (by rw [c_Kf hc102 (q := (115, 8)) (by decide +kernel), c_Kf hc102 (a := 112) (q := (5, 4)) (by decide +kernel)]; decide) 94 1 112 81 rfl (by decide) rfl (by decide +kernel) fun H103 hc103 => ?_
  refine jT_g (c_K hc103 (by decide +kernel)) ?_
  rw [c_R hc103 (v := 95) (by decide +kernel)]
  refine c_nw hc103 4 117 39910 (by decide +kernel) fun H104 hc104 => ?_
  refine jT_g (by decide) ?_
  refine jT_b (k_5_init_116 hc104 fun H112 hc112 => ?_)
  refine c_sR hc112 (by rw [c_Kf hc112 (q := (115, 8)) (by decide +kernel), c_Kf hc112 (a := 116) (q := (5, 4)) (by decide +kernel)]; decide) 95 1 116 85 rfl (by decide) rfl (by decide +kernel) fun H113 hc113 => ?_
  refine jT_l ?_
  unfold F_8_init_144 B_8_init_144
  refine jT_neg (by decide) (jT_g (c_K hc113 (by decide +kernel)) ?_)
  rw [c_R hc113 (v := 94) (by decide +kernel)]
  refine c_nw hc113 4 121 39944 (by decide +kernel) fun H114 hc114 => ?_
  refine jT_g (by decide) ?_
  refine jT_b (k_5_init_120 hc114 fun H122 hc122 => ?_)
  refine c_sR hc122 (by rw [c_Kf hc122 (q := (115, 8)) (by decide +kernel), c_Kf hc122 (a := 120) (q := (5, 4)) (by decide +kernel)]; decide) 94 2 120 89 rfl (by decide) rfl (by decide +kernel) fun H123 hc123 => ?_
  refine jT_g (c_K hc123 (by decide +kernel)) ?_
  rw [c_R hc123 (v := 95) (by decide +kernel)]
  refine c_nw hc123 4 125 39978 (by decide +kernel) fun H124 hc124 => ?_
  refine jT_g (by decide) ?_
  refine jT_b (k_5_init_124 hc124 fun H132 hc132 => ?_)
  refine c_sR hc132 (by rw [c_Kf hc132 (q := (115, 8)) (by decide +kernel), c_Kf hc132 (a := 124) (q := (5, 4)) (by decide +kernel)]; decide) 95 2 124 93 rfl (by decide) rfl (by decide +kernel) fun H133 hc133 => ?_
  refine jT_l ?_
  unfold F_8_init_144 B_8_init_144
  refine jT_neg (by decide) (jT_g (c_K hc133 (by decide +kernel)) ?_)
  rw [c_R hc133 (v := 94) (by decide +kernel)]
  refine c_nw hc133 4 129 40012 (by decide +kernel) fun H134 hc134 => ?_
  refine jT_g (by decide) ?_
  refine jT_b (k_5_init_128 hc134 fun H142 hc142 => ?_)
  refine c_sR hc142 (by rw [c_Kf hc142 (q := (115, 8)) (by decide +kernel), c_Kf hc142 (a := 128) (q := (5, 4)) (by decide +kernel)]; decide) 94 3 128 97 rfl (by decide) rfl (by decide +kernel) fun H143 hc143 => ?_
  refine jT_g (c_K hc143 (by decide +kernel)) ?_
  rw [c_R hc143 (v := 95) (by decide +kernel)]
  refine c_nw hc143 4 133 40046 (by decide +kernel) fun H144 hc144 => ?_
  refine jT_g (by decide) ?_
  refine jT_b (k_5_init_132 hc144 fun H152 hc152 => ?_)
  refine c_sR hc152 (by rw [c_Kf hc152 (q := (115, 8)) (by decide +kernel), c_Kf hc152 (a := 132) (q := (5, 4)) (by decide +kernel)]; decide) 95 3 132 101 rfl (by decide) rfl (by decide +kernel) fun H153 hc153 => ?_
  refine jT_l ?_
  unfold F_8_init_144 B_8_init_144
  refine jT_neg (by decide) (jT_g (c_K hc153 (by decide +kernel)) ?_)
  rw [c_R hc153 (v := 94) (by decide +kernel)]
  refine c_nw hc153 4 137 40080 (by decide +kernel) fun H154 hc154 => ?_
  refine jT_g (by decide) ?_
  refine jT_b (k_5_init_136 hc154 fun H162 hc162 => ?_)
  refine c_sR hc162 (by rw [c_Kf hc162 (q := (115, 8)) (by decide +kernel), c_Kf hc162 (a := 136) (q := (5, 4)) (by decide +kernel)]; decide) 94 4 136 105 rfl (by decide) rfl (by decide +kernel) fun H163 hc163 => ?_
  refine jT_g (c_K hc163 (by decide +kernel)) ?_
  rw [c_R hc163 (v := 95) (by decide +kernel)]
  refine c_nw hc163 4 141 40114 (by decide +kernel) fun H164 hc164 => ?_
  refine jT_g (by decide) ?_
  refine jT_b (k_5_init_140 hc164 fun H172 hc172 => ?_)
  refine c_sR hc172 (by rw [c_Kf hc172 (q := (115, 8)) (by decide +kernel), c_Kf hc172 (a := 140) (q := (5, 4)) (by decide +kernel)]; decide) 95 4 140 109 rfl (by decide) rfl (by decide +kernel) fun H173 hc173 => ?_
  refine jT_l ?_
  unfold F_8_init_144 B_8_init_144
  refine jT_neg (by decide) (jT_g (c_K hc173 (by decide +kernel)) ?_)
  rw [c_R hc173 (v := 94) (by decide +kernel)]
  refine c_nw hc173 4 145 40148 (by decide +kernel) fun H174 hc174 => ?_
  refine jT_g (by decide) ?_
  refine jT_b (k_5_init_144 hc174 fun H182 hc182 => ?_)
  refine c_sR hc182 (by rw [c_Kf hc182 (q := (115, 8)) (by decide +kernel), c_Kf hc182 (a := 144) (q := (5, 4)) (by decide +kernel)]; decide) 94 5 144 113 rfl (by decide) rfl (by decide +kernel) fun H183 hc183 => ?_
  refine jT_g (c_K hc183 (by decide +kernel)) ?_
  rw [c_R hc183 (v := 95) (by decide +kernel)]
  refine c_nw hc183 4 149 40182 (by decide +kernel) fun H184 hc184 => ?_
  refine jT_g (by decide) ?_
  refine jT_b (k_5_init_148 hc184 fun H192 hc192 => ?_)
  refine c_sR hc192 (by rw [c_Kf hc192 (q := (115, 8)) (by decide +kernel), c_Kf hc192 (a := 148) (q := (5, 4)) (by decide +kernel)]; decide) 95 5 148 117 rfl (by decide) rfl (by decide +kernel) fun H193 hc193 => ?_
  refine jT_l ?_
  unfold F_8_init_144 B_8_init_144
  refine jT_neg (by decide) (jT_g (c_K hc193 (by decide +kernel)) ?_)
  rw [c_R hc193 (v := 94) (by decide +kernel)]
  refine c_nw hc193 4 153 40216 (by decide +kernel) fun H194 hc194 => ?_
  refine jT_g (by decide) ?_
  refine jT_b (k_5_init_152 hc194 fun H202 hc202 => ?_)
  refine c_sR hc202 (by rw [c_Kf hc202 (q := (115, 8)) (by decide +kernel), c_Kf hc202 (a := 152) (q := (5, 4)) (by decide +kernel)]; decide) 94 6 152 121 rfl (by decide) rfl (by decide +kernel) fun H203 hc203 => ?_
  refine jT_g (c_K hc203 (by decide +kernel)) ?_
  rw [c_R hc203 (v := 95) (by decide +kernel)]
  refine c_nw hc203 4 157 40250 (by decide +kernel) fun H204 hc204 => ?_
  refine jT_g (by decide) ?_
  refine jT_b (k_5_init_156 hc204 fun H212 hc212 => ?_)
  refine c_sR hc212 (by rw [c_Kf hc212 (q := (115, 8)) (by decide +kernel), c_Kf hc212 (a := 156) (q := (5, 4)) (by decide +kernel)]; decide) 95 6 156 125 rfl (by decide) rfl (by decide +kernel) fun H213 hc213 => ?_
  refine jT_l ?_
  unfold F_8_init_144 B_8_init_144
  refine jT_neg (by decide) (jT_g (c_K hc213 (by decide +kernel)) ?_)
  rw [c_R hc213 (v := 94) (by decide +kernel)]
  refine c_nw hc213 4 161 40284 (by decide +kernel) fun H214 hc214 => ?_
  refine jT_g (by decide) ?_
  refine jT_b (k_5_init_160 hc214 fun H222 hc222 => ?_)
  refine c_sR hc222 (by rw [c_Kf hc222 (q := (115, 8)) (by decide +kernel), c_Kf hc222 (a := 160) (q := (5, 4)) (by decide +kernel)]; decide) 94 7 160 129 rfl (by decide) rfl (by decide +kernel) fun H223 hc223 => ?_
  refine jT_g (c_K hc223 (by decide +kernel)) ?_
  rw [c_R hc223 (v := 95) (by decide +kernel)]
  refine c_nw hc223 4 165 40318 (by decide +kernel) fun H224 hc224 => ?_
  refine jT_g (by decide) ?_
  refine jT_b (k_5_init_164 hc224 fun H232 hc232 => ?_)
  refine c_sR hc232 (by rw [c_Kf hc232 (q := (115, 8)) (by decide +kernel), c_Kf hc232 (a := 164) (q := (5, 4)) (by decide +kernel)]; decide) 95 7 164 133 rfl (by decide) rfl (by decide +kernel) fun H233 hc233 => ?_
  refine jT_l ?_
  unfold F_8_init_144 B_8_init_144
  exact jT_pos (by decide) (jT_ret (hk _ hc233))
theorem k_9_init_171 {Hb : jH} {Q : Unit → jH → Prop} {H : jH} (hc : jcs 172 42803 137 Hb 32 H) (hk : ∀ H', jcs 244 51343 209 Hb 32 H' → Q () H') : jT (F_9_init 171 H) Q := by
  unfold F_9_init
  refine jT_g (by decide) ?_
  refine jT_g (by decide) ?_
  refine c_nm hc 70 120 243 51273 207 (by decide +kernel) fun H243 hc243 => ?_
  refine c_sR hc243 (c_K hc243 (by decide +kernel)) 171 0 172 208 rfl rfl rfl (by decide +kernel) fun H244 hc244 => ?_
  refine jT_g (by decide) ?_
  refine c_nw hc244 70 244 51343 (by decide +kernel) fun H245 hc245 => ?_
  refine c_sR hc245 (c_K hc245 (by decide +kernel)) 171 1 243 209 rfl rfl rfl (by decide +kernel) fun H246 hc246 => ?_
  exact jT_ret (hk _ hc246)
theorem k_9_init_244 {Hb : jH} {Q : Unit → jH → Prop} {H : jH} (hc : jcs 245 51346 210 Hb 32 H) (hk : ∀ H', jcs 317 59886 282 Hb 32 H' → Q () H') : jT (F_9_init 244 H) Q := by
  unfold F_9_init
  refine jT_g (by decide) ?_
  refine jT_g (by decide) ?_
  refine c_nm hc 70 120 316 59816 280 (by decide +kernel) fun H250 hc250 => ?_
  refine c_sR hc250 (c_K hc250 (by decide +kernel)) 244 0 245 281 rfl rfl rfl (by decide +kernel) fun H251 hc251 => ?_
  refine jT_g (by decide) ?_
  refine c_nw hc251 70 317 59886 (by decide +kernel) fun H252 hc252 => ?_
  refine c_sR hc252 (c_K hc252 (by decide +kernel)) 244 1 316 282 rfl rfl rfl (by decide +kernel) fun H253 hc253 => ?_
  exact jT_ret (hk _ hc253)
theorem k_9_init_317 {Hb : jH} {Q : Unit → jH → Prop} {H : jH} (hc : jcs 318 59889 283 Hb 32 H) (hk : ∀ H', jcs 390 68429 355 Hb 32 H' → Q () H') : jT (F_9_init 317 H) Q := by
  unfold F_9_init
  refine jT_g (by decide) ?_
  refine jT_g (by decide) ?_
  refine c_nm hc 70 120 389 68359 353 (by decide +kernel) fun H257 hc257 => ?_
  refine c_sR hc257 (c_K hc257 (by decide +kernel)) 317 0 318 354 rfl rfl rfl (by decide +kernel) fun H258 hc258 => ?_
  refine jT_g (by decide) ?_
  refine c_nw hc258 70 390 68429 (by decide +kernel) fun H259 hc259 => ?_
  refine c_sR hc259 (c_K hc259 (by decide +kernel)) 317 1 389 355 rfl rfl rfl (by decide +kernel) fun H260 hc260 => ?_
  exact jT_ret (hk _ hc260)
theorem k_4_init_170 {Hb : jH} {Q : Unit → jH → Prop} {H : jH} (hc : jcs 171 42800 137 Hb 32 H) (hk : ∀ H', jcs 392 68661 360 Hb 32 H' → Q () H') : jT (F_4_init 170 43 H) Q := by
  unfold F_4_init
  refine jT_g (by decide) ?_
  refine c_nw hc 3 172 42803 (by decide +kernel) fun H242 hc242 => ?_
  refine jT_g (by decide) ?_
  refine jT_b (k_9_init_171 hc242 fun H247 hc247 => ?_)
  refine c_sR hc247 (c_K hc247 (by decide +kernel)) 170 1 171 210 rfl rfl rfl (by decide +kernel) fun H248 hc248 => ?_
  refine c_nw hc248 3 245 51346 (by decide +kernel) fun H249 hc249 => ?_
  refine jT_g (by decide) ?_
  refine jT_b (k_9_init_244 hc249 fun H254 hc254 => ?_)
  refine c_sR hc254 (c_K hc254 (by decide +kernel)) 170 2 244 283 rfl rfl rfl (by decide +kernel) fun H255 hc255 => ?_
  refine c_nw hc255 3 318 59889 (by decide +kernel) fun H256 hc256 => ?_
  refine jT_g (by decide) ?_
  refine jT_b (k_9_init_317 hc256 fun H261 hc261 => ?_)
  refine c_sR hc261 (c_K hc261 (by decide +kernel)) 170 3 317 356 rfl rfl rfl (by decide +kernel) fun H262 hc262 => ?_
  refine jT_g (by decide) ?_
  refine c_nw hc262 32 391 68461 (by decide +kernel) fun H263 hc263 => ?_
  refine c_sR hc263 (c_K hc263 (by decide +kernel)) 170 4 390 357 rfl rfl rfl (by decide +kernel) fun H264 hc264 => ?_
  refine jT_g (c_K hc264 (by decide +kernel)) ?_
  refine c_sR hc264 (c_K hc264 (by decide +kernel)) 170 5 390 358 rfl rfl (c_R hc264 (v := 390) (by decide +kernel)) (by decide +kernel) fun H265 hc265 => ?_
  refine jT_g (by decide) ?_
  refine c_nw hc265 200 392 68661 (by decide +kernel) fun H266 hc266 => ?_
  refine c_sR hc266 (c_K hc266 (by decide +kernel)) 170 11 391 359 rfl rfl rfl (by decide +kernel) fun H267 hc267 => ?_
  refine c_sR hc267 (c_K hc267 (by decide +kernel)) 170 0 43 360 rfl rfl rfl (by decide +kernel) fun H268 hc268 => ?_
  exact jT_ret (hk _ hc268)
theorem k_7_init_49 {Hb : jH} {Q : Unit → jH → Prop} {H : jH} (hc : jcs 50 38805 16 Hb 32 H) (hk : ∀ H', jcs 392 68661 361 Hb 32 H' → Q () H') : jT (F_7_init 49 43 H) Q := by
  unfold F_7_init
  refine jT_g (by decide) ?_
  refine c_nw hc 17 51 38822 (by decide +kernel) fun H27 hc27 => ?_
  refine jT_g (by decide) ?_
  refine jT_b (k_8_init_50 hc27 fun H234 hc234 => ?_)
  refine c_sR hc234 (c_K hc234 (by decide +kernel)) 49 2 50 134 rfl rfl rfl (by decide +kernel) fun H235 hc235 => ?_
  refine jT_g (by decide) ?_
  refine c_nw hc235 2400 169 42748 (by decide +kernel) fun H236 hc236 => ?_
  refine c_sR hc236 (c_K hc236 (by decide +kernel)) 49 3 168 135 rfl rfl rfl (by decide +kernel) fun H237 hc237 => ?_
  refine jT_g (by decide) ?_
  refine c_nw hc237 32 170 42780 (by decide +kernel) fun H238 hc238 => ?_
  refine c_sR hc238 (c_K hc238 (by decide +kernel)) 49 5 169 136 rfl rfl rfl (by decide +kernel) fun H239 hc239 => ?_
  refine c_sR hc239 (c_K hc239 (by decide +kernel)) 49 0 43 137 rfl rfl rfl (by decide +kernel) fun H240 hc240 => ?_
  refine c_nw hc240 20 171 42800 (by decide +kernel) fun H241 hc241 => ?_
  refine jT_g (by decide) ?_
  refine jT_b (k_4_init_170 hc241 fun H269 hc269 => ?_)
  refine c_sR hc269 (c_K hc269 (by decide +kernel)) 49 1 170 361 rfl rfl rfl (by decide +kernel) fun H270 hc270 => ?_
  exact jT_ret (hk _ hc270)
theorem k_2_init_392 {Hb : jH} {Q : Unit → jH → Prop} {H : jH} (hc : jcs 393 68670 362 Hb 32 H) (hk : ∀ H', jcs 398 73186 367 Hb 32 H' → Q () H') : jT (F_2_init 392 H) Q := by
  unfold F_2_init
  refine jT_g (by decide) ?_
  refine jT_g (by decide) ?_
  refine c_nw hc 1500 394 70170 (by decide +kernel) fun H274 hc274 => ?_
  refine c_sR hc274 (c_K hc274 (by decide +kernel)) 392 0 393 363 rfl rfl rfl (by decide +kernel) fun H275 hc275 => ?_
  refine jT_g (by decide) ?_
  refine c_nw hc275 1500 395 71670 (by decide +kernel) fun H276 hc276 => ?_
  refine c_sR hc276 (c_K hc276 (by decide +kernel)) 392 1 394 364 rfl rfl rfl (by decide +kernel) fun H277 hc277 => ?_
  refine jT_g (by decide) ?_
  refine c_nw hc277 1500 396 73170 (by decide +kernel) fun H278 hc278 => ?_
  refine c_sR hc278 (c_K hc278 (by decide +kernel)) 392 2 395 365 rfl rfl rfl (by decide +kernel) fun H279 hc279 => ?_
  refine jT_g (by decide) ?_
  refine c_nw hc279 8 397 73178 (by decide +kernel) fun H280 hc280 => ?_
  refine c_sR hc280 (c_K hc280 (by decide +kernel)) 392 6 396 366 rfl rfl rfl (by decide +kernel) fun H281 hc281 => ?_
  refine jT_g (by decide) ?_
  refine c_nw hc281 8 398 73186 (by decide +kernel) fun H282 hc282 => ?_
  refine c_sR hc282 (c_K hc282 (by decide +kernel)) 392 7 397 367 rfl rfl rfl (by decide +kernel) fun H283 hc283 => ?_
  exact jT_ret (hk _ hc283)
theorem k_0_init_410 {Hb : jH} {Q : Unit → jH → Prop} {H : jH} (hc : jcs 411 74980 381 Hb 410 H) (hk : ∀ H', jcs 414 75020 385 Hb 410 H' → jI H' 410 2 = zlow (jB Hb 409) 73 → jL H' 410 3 = (Int32.toInt64 (zlow (jB Hb 409) 69)) &&& 4294967295 → Q () H') : jT (F_0_init 410 409 H) Q := by
  unfold F_0_init
  refine jT_g (by decide) ?_
  refine jT_g (by decide) ?_
  refine c_nw hc 32 412 75012 (by decide +kernel) fun H311 hc311 => ?_
  refine c_sR hc311 (c_K hc311 (by decide +kernel)) 410 1 411 382 rfl rfl rfl (by decide +kernel) fun H312 hc312 => ?_
  refine jT_g (by decide) ?_
  refine c_nw hc312 0 413 75012 (by decide +kernel) fun H313 hc313 => ?_
  refine c_sR hc313 (c_K hc313 (by decide +kernel)) 410 4 412 383 rfl rfl rfl (by decide +kernel) fun H314 hc314 => ?_
  refine jT_g (by decide) ?_
  refine c_nw hc314 8 414 75020 (by decide +kernel) fun H315 hc315 => ?_
  refine c_sR hc315 (c_K hc315 (by decide +kernel)) 410 8 413 384 rfl rfl rfl (by decide +kernel) fun H316 hc316 => ?_
  refine c_sR hc316 (c_K hc316 (by decide +kernel)) 410 0 409 385 rfl rfl rfl (by decide +kernel) fun H317 hc317 => ?_
  refine jT_b (jT_eq (z10_low (at_ := 69) (c_Kf hc317 (q := (101, 82)) (by decide +kernel)) (by decide) (by decide)) (jT_ret ?_))
  refine c_sL hc317 (c_K hc317 (by decide +kernel)) (by decide +kernel) fun H318 hc318 v318 o318 => ?_
  refine jT_b (jT_eq (z10_low (at_ := 73) (c_Kf hc318 (q := (101, 82)) (by decide +kernel)) (by decide) (by decide)) (jT_ret ?_))
  refine c_sIf hc318 (c_K hc318 (by decide +kernel)) (by decide +kernel) fun H319 hc319 v319 o319 => ?_
  refine jT_ret (hk _ hc319 (v319.trans (congrArg (fun b => zlow b 73) (funext fun j => (c_old hc318 (by omega)).2.2))) ?_)
  rw [o319.2.1, v318]
  exact congrArg (fun b => (Int32.toInt64 (zlow b 69)) &&& 4294967295) (funext fun j => (c_old hc317 (by omega)).2.2)
theorem k_6_init_414 {Hb : jH} {Q : Unit → jH → Prop} {H : jH} (hc : jcs 415 75030 389 Hb 414 H) (hk : ∀ H', jcs 421 75210 397 Hb 414 H' → Q () H') : jT (F_6_init 414 392 49 H) Q := by
  unfold F_6_init
  refine jT_g (by decide) ?_
  refine jT_g (by decide) ?_
  refine c_nw hc 41 416 75071 (by decide +kernel) fun H323 hc323 => ?_
  refine c_sR hc323 (c_K hc323 (by decide +kernel)) 414 2 415 390 rfl rfl rfl (by decide +kernel) fun H324 hc324 => ?_
  refine jT_g (by decide) ?_
  refine c_nw hc324 41 417 75112 (by decide +kernel) fun H325 hc325 => ?_
  refine c_sR hc325 (c_K hc325 (by decide +kernel)) 414 3 416 391 rfl rfl rfl (by decide +kernel) fun H326 hc326 => ?_
  refine jT_g (by decide) ?_
  refine c_nw hc326 41 418 75153 (by decide +kernel) fun H327 hc327 => ?_
  refine c_sR hc327 (c_K hc327 (by decide +kernel)) 414 5 417 392 rfl rfl rfl (by decide +kernel) fun H328 hc328 => ?_
  refine jT_g (by decide) ?_
  refine c_nw hc328 41 419 75194 (by decide +kernel) fun H329 hc329 => ?_
  refine c_sR hc329 (c_K hc329 (by decide +kernel)) 414 6 418 393 rfl rfl rfl (by decide +kernel) fun H330 hc330 => ?_
  refine jT_g (by decide) ?_
  refine c_nw hc330 8 420 75202 (by decide +kernel) fun H331 hc331 => ?_
  refine c_sR hc331 (c_K hc331 (by decide +kernel)) 414 7 419 394 rfl rfl rfl (by decide +kernel) fun H332 hc332 => ?_
  refine jT_g (by decide) ?_
  refine c_nw hc332 8 421 75210 (by decide +kernel) fun H333 hc333 => ?_
  refine c_sR hc333 (c_K hc333 (by decide +kernel)) 414 8 420 395 rfl rfl rfl (by decide +kernel) fun H334 hc334 => ?_
  refine c_sR hc334 (c_K hc334 (by decide +kernel)) 414 0 392 396 rfl rfl rfl (by decide +kernel) fun H335 hc335 => ?_
  refine c_sR hc335 (c_K hc335 (by decide +kernel)) 414 1 49 397 rfl rfl rfl (by decide +kernel) fun H336 hc336 => ?_
  exact jT_ret (hk _ hc336)
