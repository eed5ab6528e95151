noncomputable def zwide := @Jvm.Free.Multi.fill
